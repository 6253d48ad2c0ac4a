theorem dX2_init_0 : decode cX2_init 0 = .ok (.aload_n 0, 1) := by decide +kernel
theorem dX2_init_1 : decode cX2_init 1 = .ok (.invokespecial 3, 3) := by decide +kernel
theorem dX2_init_4 : decode cX2_init 4 = .ok (.aload_n 0, 1) := by decide +kernel
theorem dX2_init_5 : decode cX2_init 5 = .ok (.sipush 600, 3) := by decide +kernel
theorem dX2_init_8 : decode cX2_init 8 = .ok (.newarray .int, 2) := by decide +kernel
theorem dX2_init_10 : decode cX2_init 10 = .ok (.putfield 11, 3) := by decide +kernel
theorem dX2_init_13 : decode cX2_init 13 = .ok (.aload_n 0, 1) := by decide +kernel
theorem dX2_init_14 : decode cX2_init 14 = .ok (.iconst 0, 1) := by decide +kernel
theorem dX2_init_15 : decode cX2_init 15 = .ok (.putfield 15, 3) := by decide +kernel
theorem dX2_init_18 : decode cX2_init 18 = .ok (.aload_n 0, 1) := by decide +kernel
theorem dX2_init_19 : decode cX2_init 19 = .ok (.new 19, 3) := by decide +kernel
theorem dX2_init_22 : decode cX2_init 22 = .ok (.dup, 1) := by decide +kernel
theorem dX2_init_23 : decode cX2_init 23 = .ok (.iconst 0, 1) := by decide +kernel
theorem dX2_init_24 : decode cX2_init 24 = .ok (.invokespecial 21, 3) := by decide +kernel
theorem dX2_init_27 : decode cX2_init 27 = .ok (.putfield 24, 3) := by decide +kernel
theorem dX2_init_30 : decode cX2_init 30 = .ok (.aload_n 0, 1) := by decide +kernel
theorem dX2_init_31 : decode cX2_init 31 = .ok (.new 19, 3) := by decide +kernel
theorem dX2_init_34 : decode cX2_init 34 = .ok (.dup, 1) := by decide +kernel
theorem dX2_init_35 : decode cX2_init 35 = .ok (.sipush 300, 3) := by decide +kernel
theorem dX2_init_38 : decode cX2_init 38 = .ok (.invokespecial 21, 3) := by decide +kernel
theorem dX2_init_41 : decode cX2_init 41 = .ok (.putfield 28, 3) := by decide +kernel
theorem dX2_init_44 : decode cX2_init 44 = .ok (.aload_n 0, 1) := by decide +kernel
theorem dX2_init_45 : decode cX2_init 45 = .ok (.new 31, 3) := by decide +kernel
theorem dX2_init_48 : decode cX2_init 48 = .ok (.dup, 1) := by decide +kernel
theorem dX2_init_49 : decode cX2_init 49 = .ok (.invokespecial 33, 3) := by decide +kernel
theorem dX2_init_52 : decode cX2_init 52 = .ok (.putfield 34, 3) := by decide +kernel
theorem dX2_init_55 : decode cX2_init 55 = .ok (.aload_n 0, 1) := by decide +kernel
theorem dX2_init_56 : decode cX2_init 56 = .ok (.new 31, 3) := by decide +kernel
theorem dX2_init_59 : decode cX2_init 59 = .ok (.dup, 1) := by decide +kernel
theorem dX2_init_60 : decode cX2_init 60 = .ok (.invokespecial 33, 3) := by decide +kernel
theorem dX2_init_63 : decode cX2_init 63 = .ok (.putfield 38, 3) := by decide +kernel
theorem dX2_init_66 : decode cX2_init 66 = .ok (.aload_n 0, 1) := by decide +kernel
theorem dX2_init_67 : decode cX2_init 67 = .ok (.new 41, 3) := by decide +kernel
theorem dX2_init_70 : decode cX2_init 70 = .ok (.dup, 1) := by decide +kernel
theorem dX2_init_71 : decode cX2_init 71 = .ok (.invokespecial 43, 3) := by decide +kernel
theorem dX2_init_74 : decode cX2_init 74 = .ok (.putfield 44, 3) := by decide +kernel
theorem dX2_init_77 : decode cX2_init 77 = .ok (.aload_n 0, 1) := by decide +kernel
theorem dX2_init_78 : decode cX2_init 78 = .ok (.new 41, 3) := by decide +kernel
theorem dX2_init_81 : decode cX2_init 81 = .ok (.dup, 1) := by decide +kernel
theorem dX2_init_82 : decode cX2_init 82 = .ok (.invokespecial 43, 3) := by decide +kernel
theorem dX2_init_85 : decode cX2_init 85 = .ok (.putfield 48, 3) := by decide +kernel
theorem dX2_init_88 : decode cX2_init 88 = .ok (.aload_n 0, 1) := by decide +kernel
theorem dX2_init_89 : decode cX2_init 89 = .ok (.iconst 3, 1) := by decide +kernel
theorem dX2_init_90 : decode cX2_init 90 = .ok (.newarray .int, 2) := by decide +kernel
theorem dX2_init_92 : decode cX2_init 92 = .ok (.putfield 51, 3) := by decide +kernel
theorem dX2_init_95 : decode cX2_init 95 = .ok (.aload_n 0, 1) := by decide +kernel
theorem dX2_init_96 : decode cX2_init 96 = .ok (.iconst 0, 1) := by decide +kernel
theorem dX2_init_97 : decode cX2_init 97 = .ok (.putfield 54, 3) := by decide +kernel
theorem dX2_init_100 : decode cX2_init 100 = .ok (.aload_n 0, 1) := by decide +kernel
theorem dX2_init_101 : decode cX2_init 101 = .ok (.iconst 3, 1) := by decide +kernel
theorem dX2_init_102 : decode cX2_init 102 = .ok (.newarray .int, 2) := by decide +kernel
theorem dX2_init_104 : decode cX2_init 104 = .ok (.putfield 57, 3) := by decide +kernel
theorem dX2_init_107 : decode cX2_init 107 = .ok (.aload_n 0, 1) := by decide +kernel
theorem dX2_init_108 : decode cX2_init 108 = .ok (.new 60, 3) := by decide +kernel
theorem dX2_init_111 : decode cX2_init 111 = .ok (.dup, 1) := by decide +kernel
theorem dX2_init_112 : decode cX2_init 112 = .ok (.iconst 1, 1) := by decide +kernel
theorem dX2_init_113 : decode cX2_init 113 = .ok (.iconst 0, 1) := by decide +kernel
theorem dX2_init_114 : decode cX2_init 114 = .ok (.iconst 0, 1) := by decide +kernel
theorem dX2_init_115 : decode cX2_init 115 = .ok (.iconst 0, 1) := by decide +kernel
theorem dX2_init_116 : decode cX2_init 116 = .ok (.invokespecial 62, 3) := by decide +kernel
theorem dX2_init_119 : decode cX2_init 119 = .ok (.putfield 65, 3) := by decide +kernel
theorem dX2_init_122 : decode cX2_init 122 = .ok (.aload_n 0, 1) := by decide +kernel
theorem dX2_init_123 : decode cX2_init 123 = .ok (.iconst 2, 1) := by decide +kernel
theorem dX2_init_124 : decode cX2_init 124 = .ok (.putfield 69, 3) := by decide +kernel
theorem dX2_init_127 : decode cX2_init 127 = .ok (.aload_n 0, 1) := by decide +kernel
theorem dX2_init_128 : decode cX2_init 128 = .ok (.aconst_null, 1) := by decide +kernel
theorem dX2_init_129 : decode cX2_init 129 = .ok (.putfield 72, 3) := by decide +kernel
theorem dX2_init_132 : decode cX2_init 132 = .ok (.return_, 1) := by decide +kernel
theorem dX2_forget_0 : decode cX2_forget 0 = .ok (.aload_n 0, 1) := by decide +kernel
theorem dX2_forget_1 : decode cX2_forget 1 = .ok (.aconst_null, 1) := by decide +kernel
theorem dX2_forget_2 : decode cX2_forget 2 = .ok (.putfield 72, 3) := by decide +kernel
theorem dX2_forget_5 : decode cX2_forget 5 = .ok (.return_, 1) := by decide +kernel
theorem dX2_find_0 : decode cX2_find 0 = .ok (.aload_n 1, 1) := by decide +kernel
theorem dX2_find_1 : decode cX2_find 1 = .ok (.aload_n 0, 1) := by decide +kernel
theorem dX2_find_2 : decode cX2_find 2 = .ok (.getfield 72, 3) := by decide +kernel
theorem dX2_find_5 : decode cX2_find 5 = .ok (.if_acmp .ne 4, 3) := by decide +kernel
theorem dX2_find_8 : decode cX2_find 8 = .ok (.return_, 1) := by decide +kernel
theorem dX2_find_9 : decode cX2_find 9 = .ok (.aload_n 0, 1) := by decide +kernel
theorem dX2_find_10 : decode cX2_find 10 = .ok (.aload_n 1, 1) := by decide +kernel
theorem dX2_find_11 : decode cX2_find 11 = .ok (.iload_n 2, 1) := by decide +kernel
theorem dX2_find_12 : decode cX2_find 12 = .ok (.invokevirtual 75, 3) := by decide +kernel
theorem dX2_find_15 : decode cX2_find 15 = .ok (.aload_n 0, 1) := by decide +kernel
theorem dX2_find_16 : decode cX2_find 16 = .ok (.iconst 0, 1) := by decide +kernel
theorem dX2_find_17 : decode cX2_find 17 = .ok (.putfield 15, 3) := by decide +kernel
theorem dX2_find_20 : decode cX2_find 20 = .ok (.aload_n 1, 1) := by decide +kernel
theorem dX2_find_21 : decode cX2_find 21 = .ok (.invokevirtual 79, 3) := by decide +kernel
theorem dX2_find_24 : decode cX2_find 24 = .ok (.ifCond .le 96, 3) := by decide +kernel
theorem dX2_find_27 : decode cX2_find 27 = .ok (.aload_n 0, 1) := by decide +kernel
theorem dX2_find_28 : decode cX2_find 28 = .ok (.getfield 34, 3) := by decide +kernel
theorem dX2_find_31 : decode cX2_find 31 = .ok (.aload_n 1, 1) := by decide +kernel
theorem dX2_find_32 : decode cX2_find 32 = .ok (.aload_n 0, 1) := by decide +kernel
theorem dX2_find_33 : decode cX2_find 33 = .ok (.getfield 24, 3) := by decide +kernel
theorem dX2_find_36 : decode cX2_find 36 = .ok (.aload_n 0, 1) := by decide +kernel
theorem dX2_find_37 : decode cX2_find 37 = .ok (.getfield 69, 3) := by decide +kernel
theorem dX2_find_40 : decode cX2_find 40 = .ok (.invokevirtual 82, 3) := by decide +kernel
theorem dX2_find_43 : decode cX2_find 43 = .ok (.aload_n 0, 1) := by decide +kernel
theorem dX2_find_44 : decode cX2_find 44 = .ok (.aload_n 1, 1) := by decide +kernel
theorem dX2_find_45 : decode cX2_find 45 = .ok (.invokevirtual 86, 3) := by decide +kernel
theorem dX2_find_48 : decode cX2_find 48 = .ok (.iconst 0, 1) := by decide +kernel
theorem dX2_find_49 : decode cX2_find 49 = .ok (.istore_n 3, 1) := by decide +kernel
theorem dX2_find_50 : decode cX2_find 50 = .ok (.iload_n 3, 1) := by decide +kernel
theorem dX2_find_51 : decode cX2_find 51 = .ok (.aload_n 0, 1) := by decide +kernel
theorem dX2_find_52 : decode cX2_find 52 = .ok (.getfield 69, 3) := by decide +kernel
theorem dX2_find_55 : decode cX2_find 55 = .ok (.if_icmp .ge 35, 3) := by decide +kernel
theorem dX2_find_58 : decode cX2_find 58 = .ok (.iconst 0, 1) := by decide +kernel
theorem dX2_find_59 : decode cX2_find 59 = .ok (.istore 4, 2) := by decide +kernel
theorem dX2_find_61 : decode cX2_find 61 = .ok (.iload 4, 2) := by decide +kernel
theorem dX2_find_63 : decode cX2_find 63 = .ok (.aload_n 0, 1) := by decide +kernel
theorem dX2_find_64 : decode cX2_find 64 = .ok (.getfield 69, 3) := by decide +kernel
theorem dX2_find_67 : decode cX2_find 67 = .ok (.if_icmp .ge 17, 3) := by decide +kernel
theorem dX2_find_70 : decode cX2_find 70 = .ok (.aload_n 0, 1) := by decide +kernel
theorem dX2_find_71 : decode cX2_find 71 = .ok (.iconst 1, 1) := by decide +kernel
theorem dX2_find_72 : decode cX2_find 72 = .ok (.iload_n 3, 1) := by decide +kernel
theorem dX2_find_73 : decode cX2_find 73 = .ok (.iload 4, 2) := by decide +kernel
theorem dX2_find_75 : decode cX2_find 75 = .ok (.invokevirtual 90, 3) := by decide +kernel
theorem dX2_find_78 : decode cX2_find 78 = .ok (.iinc 4 1, 3) := by decide +kernel
theorem dX2_find_81 : decode cX2_find 81 = .ok (.goto (-20), 3) := by decide +kernel
theorem dX2_find_84 : decode cX2_find 84 = .ok (.iinc 3 1, 3) := by decide +kernel
theorem dX2_find_87 : decode cX2_find 87 = .ok (.goto (-37), 3) := by decide +kernel
theorem dX2_find_90 : decode cX2_find 90 = .ok (.iconst 0, 1) := by decide +kernel
theorem dX2_find_91 : decode cX2_find 91 = .ok (.istore_n 3, 1) := by decide +kernel
theorem dX2_find_92 : decode cX2_find 92 = .ok (.iload_n 3, 1) := by decide +kernel
theorem dX2_find_93 : decode cX2_find 93 = .ok (.aload_n 0, 1) := by decide +kernel
theorem dX2_find_94 : decode cX2_find 94 = .ok (.getfield 69, 3) := by decide +kernel
theorem dX2_find_97 : decode cX2_find 97 = .ok (.if_icmp .ge 16, 3) := by decide +kernel
theorem dX2_find_100 : decode cX2_find 100 = .ok (.aload_n 0, 1) := by decide +kernel
theorem dX2_find_101 : decode cX2_find 101 = .ok (.iconst 0, 1) := by decide +kernel
theorem dX2_find_102 : decode cX2_find 102 = .ok (.iconst 1, 1) := by decide +kernel
theorem dX2_find_103 : decode cX2_find 103 = .ok (.iload_n 3, 1) := by decide +kernel
theorem dX2_find_104 : decode cX2_find 104 = .ok (.invokevirtual 90, 3) := by decide +kernel
theorem dX2_find_107 : decode cX2_find 107 = .ok (.iinc 3 1, 3) := by decide +kernel
theorem dX2_find_110 : decode cX2_find 110 = .ok (.goto (-18), 3) := by decide +kernel
theorem dX2_find_113 : decode cX2_find 113 = .ok (.aload_n 0, 1) := by decide +kernel
theorem dX2_find_114 : decode cX2_find 114 = .ok (.iconst 0, 1) := by decide +kernel
theorem dX2_find_115 : decode cX2_find 115 = .ok (.iconst 0, 1) := by decide +kernel
theorem dX2_find_116 : decode cX2_find 116 = .ok (.iconst 1, 1) := by decide +kernel
theorem dX2_find_117 : decode cX2_find 117 = .ok (.invokevirtual 90, 3) := by decide +kernel
theorem dX2_find_120 : decode cX2_find 120 = .ok (.aload_n 0, 1) := by decide +kernel
theorem dX2_find_121 : decode cX2_find 121 = .ok (.aload_n 1, 1) := by decide +kernel
theorem dX2_find_122 : decode cX2_find 122 = .ok (.putfield 72, 3) := by decide +kernel
theorem dX2_find_125 : decode cX2_find 125 = .ok (.return_, 1) := by decide +kernel
theorem dX2_inAll_0 : decode cX2_inAll 0 = .ok (.iconst 0, 1) := by decide +kernel
theorem dX2_inAll_1 : decode cX2_inAll 1 = .ok (.istore_n 1, 1) := by decide +kernel
theorem dX2_inAll_2 : decode cX2_inAll 2 = .ok (.iconst 0, 1) := by decide +kernel
theorem dX2_inAll_3 : decode cX2_inAll 3 = .ok (.istore_n 2, 1) := by decide +kernel
theorem dX2_inAll_4 : decode cX2_inAll 4 = .ok (.iload_n 2, 1) := by decide +kernel
theorem dX2_inAll_5 : decode cX2_inAll 5 = .ok (.aload_n 0, 1) := by decide +kernel
theorem dX2_inAll_6 : decode cX2_inAll 6 = .ok (.getfield 15, 3) := by decide +kernel
theorem dX2_inAll_9 : decode cX2_inAll 9 = .ok (.if_icmp .ge 22, 3) := by decide +kernel
theorem dX2_inAll_12 : decode cX2_inAll 12 = .ok (.iload_n 1, 1) := by decide +kernel
theorem dX2_inAll_13 : decode cX2_inAll 13 = .ok (.aload_n 0, 1) := by decide +kernel
theorem dX2_inAll_14 : decode cX2_inAll 14 = .ok (.getfield 11, 3) := by decide +kernel
theorem dX2_inAll_17 : decode cX2_inAll 17 = .ok (.iload_n 2, 1) := by decide +kernel
theorem dX2_inAll_18 : decode cX2_inAll 18 = .ok (.iconst 5, 1) := by decide +kernel
theorem dX2_inAll_19 : decode cX2_inAll 19 = .ok (.imul, 1) := by decide +kernel
theorem dX2_inAll_20 : decode cX2_inAll 20 = .ok (.iconst 4, 1) := by decide +kernel
theorem dX2_inAll_21 : decode cX2_inAll 21 = .ok (.iadd, 1) := by decide +kernel
theorem dX2_inAll_22 : decode cX2_inAll 22 = .ok (.iaload, 1) := by decide +kernel
theorem dX2_inAll_23 : decode cX2_inAll 23 = .ok (.iadd, 1) := by decide +kernel
theorem dX2_inAll_24 : decode cX2_inAll 24 = .ok (.istore_n 1, 1) := by decide +kernel
theorem dX2_inAll_25 : decode cX2_inAll 25 = .ok (.iinc 2 1, 3) := by decide +kernel
theorem dX2_inAll_28 : decode cX2_inAll 28 = .ok (.goto (-24), 3) := by decide +kernel
theorem dX2_inAll_31 : decode cX2_inAll 31 = .ok (.iload_n 1, 1) := by decide +kernel
theorem dX2_inAll_32 : decode cX2_inAll 32 = .ok (.ireturn, 1) := by decide +kernel
theorem dX2_rest_0 : decode cX2_rest 0 = .ok (.aload_n 0, 1) := by decide +kernel
theorem dX2_rest_1 : decode cX2_rest 1 = .ok (.getfield 44, 3) := by decide +kernel
theorem dX2_rest_4 : decode cX2_rest 4 = .ok (.aload_n 0, 1) := by decide +kernel
theorem dX2_rest_5 : decode cX2_rest 5 = .ok (.getfield 28, 3) := by decide +kernel
theorem dX2_rest_8 : decode cX2_rest 8 = .ok (.aload_n 0, 1) := by decide +kernel
theorem dX2_rest_9 : decode cX2_rest 9 = .ok (.getfield 69, 3) := by decide +kernel
theorem dX2_rest_12 : decode cX2_rest 12 = .ok (.invokevirtual 94, 3) := by decide +kernel
theorem dX2_rest_15 : decode cX2_rest 15 = .ok (.aload_n 0, 1) := by decide +kernel
theorem dX2_rest_16 : decode cX2_rest 16 = .ok (.getfield 28, 3) := by decide +kernel
theorem dX2_rest_19 : decode cX2_rest 19 = .ok (.invokevirtual 97, 3) := by decide +kernel
theorem dX2_rest_22 : decode cX2_rest 22 = .ok (.areturn, 1) := by decide +kernel
theorem dX2_timesOf_0 : decode cX2_timesOf 0 = .ok (.aload_n 0, 1) := by decide +kernel
theorem dX2_timesOf_1 : decode cX2_timesOf 1 = .ok (.aload_n 1, 1) := by decide +kernel
theorem dX2_timesOf_2 : decode cX2_timesOf 2 = .ok (.iload_n 2, 1) := by decide +kernel
theorem dX2_timesOf_3 : decode cX2_timesOf 3 = .ok (.invokevirtual 75, 3) := by decide +kernel
theorem dX2_timesOf_6 : decode cX2_timesOf 6 = .ok (.aload_n 0, 1) := by decide +kernel
theorem dX2_timesOf_7 : decode cX2_timesOf 7 = .ok (.aconst_null, 1) := by decide +kernel
theorem dX2_timesOf_8 : decode cX2_timesOf 8 = .ok (.putfield 72, 3) := by decide +kernel
theorem dX2_timesOf_11 : decode cX2_timesOf 11 = .ok (.aload_n 0, 1) := by decide +kernel
theorem dX2_timesOf_12 : decode cX2_timesOf 12 = .ok (.aload_n 3, 1) := by decide +kernel
theorem dX2_timesOf_13 : decode cX2_timesOf 13 = .ok (.invokevirtual 101, 3) := by decide +kernel
theorem dX2_timesOf_16 : decode cX2_timesOf 16 = .ok (.ireturn, 1) := by decide +kernel
theorem dX2_layOut_0 : decode cX2_layOut 0 = .ok (.aload_n 0, 1) := by decide +kernel
theorem dX2_layOut_1 : decode cX2_layOut 1 = .ok (.iload_n 2, 1) := by decide +kernel
theorem dX2_layOut_2 : decode cX2_layOut 2 = .ok (.putfield 69, 3) := by decide +kernel
theorem dX2_layOut_5 : decode cX2_layOut 5 = .ok (.iconst 0, 1) := by decide +kernel
theorem dX2_layOut_6 : decode cX2_layOut 6 = .ok (.istore_n 3, 1) := by decide +kernel
theorem dX2_layOut_7 : decode cX2_layOut 7 = .ok (.iconst 0, 1) := by decide +kernel
theorem dX2_layOut_8 : decode cX2_layOut 8 = .ok (.istore 4, 2) := by decide +kernel
theorem dX2_layOut_10 : decode cX2_layOut 10 = .ok (.iload 4, 2) := by decide +kernel
theorem dX2_layOut_12 : decode cX2_layOut 12 = .ok (.iconst 3, 1) := by decide +kernel
theorem dX2_layOut_13 : decode cX2_layOut 13 = .ok (.if_icmp .ge 53, 3) := by decide +kernel
theorem dX2_layOut_16 : decode cX2_layOut 16 = .ok (.aload_n 1, 1) := by decide +kernel
theorem dX2_layOut_17 : decode cX2_layOut 17 = .ok (.iload 4, 2) := by decide +kernel
theorem dX2_layOut_19 : decode cX2_layOut 19 = .ok (.invokevirtual 105, 3) := by decide +kernel
theorem dX2_layOut_22 : decode cX2_layOut 22 = .ok (.istore 5, 2) := by decide +kernel
theorem dX2_layOut_24 : decode cX2_layOut 24 = .ok (.aload_n 0, 1) := by decide +kernel
theorem dX2_layOut_25 : decode cX2_layOut 25 = .ok (.getfield 57, 3) := by decide +kernel
theorem dX2_layOut_28 : decode cX2_layOut 28 = .ok (.iload 4, 2) := by decide +kernel
theorem dX2_layOut_30 : decode cX2_layOut 30 = .ok (.iload 5, 2) := by decide +kernel
theorem dX2_layOut_32 : decode cX2_layOut 32 = .ok (.iastore, 1) := by decide +kernel
theorem dX2_layOut_33 : decode cX2_layOut 33 = .ok (.aload_n 0, 1) := by decide +kernel
theorem dX2_layOut_34 : decode cX2_layOut 34 = .ok (.getfield 51, 3) := by decide +kernel
theorem dX2_layOut_37 : decode cX2_layOut 37 = .ok (.iload 4, 2) := by decide +kernel
theorem dX2_layOut_39 : decode cX2_layOut 39 = .ok (.aload_n 1, 1) := by decide +kernel
theorem dX2_layOut_40 : decode cX2_layOut 40 = .ok (.iload 4, 2) := by decide +kernel
theorem dX2_layOut_42 : decode cX2_layOut 42 = .ok (.invokevirtual 109, 3) := by decide +kernel
theorem dX2_layOut_45 : decode cX2_layOut 45 = .ok (.iload 5, 2) := by decide +kernel
theorem dX2_layOut_47 : decode cX2_layOut 47 = .ok (.isub, 1) := by decide +kernel
theorem dX2_layOut_48 : decode cX2_layOut 48 = .ok (.iastore, 1) := by decide +kernel
theorem dX2_layOut_49 : decode cX2_layOut 49 = .ok (.iload_n 3, 1) := by decide +kernel
theorem dX2_layOut_50 : decode cX2_layOut 50 = .ok (.iload 5, 2) := by decide +kernel
theorem dX2_layOut_52 : decode cX2_layOut 52 = .ok (.iload 4, 2) := by decide +kernel
theorem dX2_layOut_54 : decode cX2_layOut 54 = .ok (.invokestatic 112, 3) := by decide +kernel
theorem dX2_layOut_57 : decode cX2_layOut 57 = .ok (.imul, 1) := by decide +kernel
theorem dX2_layOut_58 : decode cX2_layOut 58 = .ok (.iadd, 1) := by decide +kernel
theorem dX2_layOut_59 : decode cX2_layOut 59 = .ok (.istore_n 3, 1) := by decide +kernel
theorem dX2_layOut_60 : decode cX2_layOut 60 = .ok (.iinc 4 1, 3) := by decide +kernel
theorem dX2_layOut_63 : decode cX2_layOut 63 = .ok (.goto (-53), 3) := by decide +kernel
theorem dX2_layOut_66 : decode cX2_layOut 66 = .ok (.aload_n 0, 1) := by decide +kernel
theorem dX2_layOut_67 : decode cX2_layOut 67 = .ok (.aload_n 1, 1) := by decide +kernel
theorem dX2_layOut_68 : decode cX2_layOut 68 = .ok (.invokevirtual 79, 3) := by decide +kernel
theorem dX2_layOut_71 : decode cX2_layOut 71 = .ok (.iload_n 3, 1) := by decide +kernel
theorem dX2_layOut_72 : decode cX2_layOut 72 = .ok (.invokestatic 115, 3) := by decide +kernel
theorem dX2_layOut_75 : decode cX2_layOut 75 = .ok (.isub, 1) := by decide +kernel
theorem dX2_layOut_76 : decode cX2_layOut 76 = .ok (.putfield 54, 3) := by decide +kernel
theorem dX2_layOut_79 : decode cX2_layOut 79 = .ok (.aload_n 0, 1) := by decide +kernel
theorem dX2_layOut_80 : decode cX2_layOut 80 = .ok (.getfield 44, 3) := by decide +kernel
theorem dX2_layOut_83 : decode cX2_layOut 83 = .ok (.aload_n 0, 1) := by decide +kernel
theorem dX2_layOut_84 : decode cX2_layOut 84 = .ok (.getfield 51, 3) := by decide +kernel
theorem dX2_layOut_87 : decode cX2_layOut 87 = .ok (.iconst 0, 1) := by decide +kernel
theorem dX2_layOut_88 : decode cX2_layOut 88 = .ok (.iaload, 1) := by decide +kernel
theorem dX2_layOut_89 : decode cX2_layOut 89 = .ok (.aload_n 0, 1) := by decide +kernel
theorem dX2_layOut_90 : decode cX2_layOut 90 = .ok (.getfield 51, 3) := by decide +kernel
theorem dX2_layOut_93 : decode cX2_layOut 93 = .ok (.iconst 1, 1) := by decide +kernel
theorem dX2_layOut_94 : decode cX2_layOut 94 = .ok (.iaload, 1) := by decide +kernel
theorem dX2_layOut_95 : decode cX2_layOut 95 = .ok (.aload_n 0, 1) := by decide +kernel
theorem dX2_layOut_96 : decode cX2_layOut 96 = .ok (.getfield 51, 3) := by decide +kernel
theorem dX2_layOut_99 : decode cX2_layOut 99 = .ok (.iconst 2, 1) := by decide +kernel
theorem dX2_layOut_100 : decode cX2_layOut 100 = .ok (.iaload, 1) := by decide +kernel
theorem dX2_layOut_101 : decode cX2_layOut 101 = .ok (.invokevirtual 118, 3) := by decide +kernel
theorem dX2_layOut_104 : decode cX2_layOut 104 = .ok (.iconst 0, 1) := by decide +kernel
theorem dX2_layOut_105 : decode cX2_layOut 105 = .ok (.istore 4, 2) := by decide +kernel
theorem dX2_layOut_107 : decode cX2_layOut 107 = .ok (.iload 4, 2) := by decide +kernel
theorem dX2_layOut_109 : decode cX2_layOut 109 = .ok (.aload_n 1, 1) := by decide +kernel
theorem dX2_layOut_110 : decode cX2_layOut 110 = .ok (.getfield 121, 3) := by decide +kernel
theorem dX2_layOut_113 : decode cX2_layOut 113 = .ok (.if_icmp .ge 40, 3) := by decide +kernel
theorem dX2_layOut_116 : decode cX2_layOut 116 = .ok (.aload_n 0, 1) := by decide +kernel
theorem dX2_layOut_117 : decode cX2_layOut 117 = .ok (.getfield 44, 3) := by decide +kernel
theorem dX2_layOut_120 : decode cX2_layOut 120 = .ok (.getfield 122, 3) := by decide +kernel
theorem dX2_layOut_123 : decode cX2_layOut 123 = .ok (.aload_n 0, 1) := by decide +kernel
theorem dX2_layOut_124 : decode cX2_layOut 124 = .ok (.getfield 44, 3) := by decide +kernel
theorem dX2_layOut_127 : decode cX2_layOut 127 = .ok (.aload_n 1, 1) := by decide +kernel
theorem dX2_layOut_128 : decode cX2_layOut 128 = .ok (.getfield 125, 3) := by decide +kernel
theorem dX2_layOut_131 : decode cX2_layOut 131 = .ok (.iload 4, 2) := by decide +kernel
theorem dX2_layOut_133 : decode cX2_layOut 133 = .ok (.iaload, 1) := by decide +kernel
theorem dX2_layOut_134 : decode cX2_layOut 134 = .ok (.iload_n 3, 1) := by decide +kernel
theorem dX2_layOut_135 : decode cX2_layOut 135 = .ok (.isub, 1) := by decide +kernel
theorem dX2_layOut_136 : decode cX2_layOut 136 = .ok (.invokevirtual 128, 3) := by decide +kernel
theorem dX2_layOut_139 : decode cX2_layOut 139 = .ok (.aload_n 1, 1) := by decide +kernel
theorem dX2_layOut_140 : decode cX2_layOut 140 = .ok (.getfield 131, 3) := by decide +kernel
theorem dX2_layOut_143 : decode cX2_layOut 143 = .ok (.iload 4, 2) := by decide +kernel
theorem dX2_layOut_145 : decode cX2_layOut 145 = .ok (.iaload, 1) := by decide +kernel
theorem dX2_layOut_146 : decode cX2_layOut 146 = .ok (.iastore, 1) := by decide +kernel
theorem dX2_layOut_147 : decode cX2_layOut 147 = .ok (.iinc 4 1, 3) := by decide +kernel
theorem dX2_layOut_150 : decode cX2_layOut 150 = .ok (.goto (-43), 3) := by decide +kernel
theorem dX2_layOut_153 : decode cX2_layOut 153 = .ok (.return_, 1) := by decide +kernel
theorem dX2_loadHighest_0 : decode cX2_loadHighest 0 = .ok (.aload_n 1, 1) := by decide +kernel
theorem dX2_loadHighest_1 : decode cX2_loadHighest 1 = .ok (.invokevirtual 79, 3) := by decide +kernel
theorem dX2_loadHighest_4 : decode cX2_loadHighest 4 = .ok (.istore_n 2, 1) := by decide +kernel
theorem dX2_loadHighest_5 : decode cX2_loadHighest 5 = .ok (.aload_n 0, 1) := by decide +kernel
theorem dX2_loadHighest_6 : decode cX2_loadHighest 6 = .ok (.getfield 28, 3) := by decide +kernel
theorem dX2_loadHighest_9 : decode cX2_loadHighest 9 = .ok (.invokevirtual 134, 3) := by decide +kernel
theorem dX2_loadHighest_12 : decode cX2_loadHighest 12 = .ok (.iconst 0, 1) := by decide +kernel
theorem dX2_loadHighest_13 : decode cX2_loadHighest 13 = .ok (.istore_n 3, 1) := by decide +kernel
theorem dX2_loadHighest_14 : decode cX2_loadHighest 14 = .ok (.iload_n 3, 1) := by decide +kernel
theorem dX2_loadHighest_15 : decode cX2_loadHighest 15 = .ok (.aload_n 1, 1) := by decide +kernel
theorem dX2_loadHighest_16 : decode cX2_loadHighest 16 = .ok (.getfield 121, 3) := by decide +kernel
theorem dX2_loadHighest_19 : decode cX2_loadHighest 19 = .ok (.if_icmp .ge 41, 3) := by decide +kernel
theorem dX2_loadHighest_22 : decode cX2_loadHighest 22 = .ok (.aload_n 1, 1) := by decide +kernel
theorem dX2_loadHighest_23 : decode cX2_loadHighest 23 = .ok (.getfield 125, 3) := by decide +kernel
theorem dX2_loadHighest_26 : decode cX2_loadHighest 26 = .ok (.iload_n 3, 1) := by decide +kernel
theorem dX2_loadHighest_27 : decode cX2_loadHighest 27 = .ok (.iaload, 1) := by decide +kernel
theorem dX2_loadHighest_28 : decode cX2_loadHighest 28 = .ok (.invokestatic 115, 3) := by decide +kernel
theorem dX2_loadHighest_31 : decode cX2_loadHighest 31 = .ok (.iload_n 2, 1) := by decide +kernel
theorem dX2_loadHighest_32 : decode cX2_loadHighest 32 = .ok (.if_icmp .ne 22, 3) := by decide +kernel
theorem dX2_loadHighest_35 : decode cX2_loadHighest 35 = .ok (.aload_n 0, 1) := by decide +kernel
theorem dX2_loadHighest_36 : decode cX2_loadHighest 36 = .ok (.getfield 28, 3) := by decide +kernel
theorem dX2_loadHighest_39 : decode cX2_loadHighest 39 = .ok (.aload_n 1, 1) := by decide +kernel
theorem dX2_loadHighest_40 : decode cX2_loadHighest 40 = .ok (.getfield 125, 3) := by decide +kernel
theorem dX2_loadHighest_43 : decode cX2_loadHighest 43 = .ok (.iload_n 3, 1) := by decide +kernel
theorem dX2_loadHighest_44 : decode cX2_loadHighest 44 = .ok (.iaload, 1) := by decide +kernel
theorem dX2_loadHighest_45 : decode cX2_loadHighest 45 = .ok (.aload_n 1, 1) := by decide +kernel
theorem dX2_loadHighest_46 : decode cX2_loadHighest 46 = .ok (.getfield 131, 3) := by decide +kernel
theorem dX2_loadHighest_49 : decode cX2_loadHighest 49 = .ok (.iload_n 3, 1) := by decide +kernel
theorem dX2_loadHighest_50 : decode cX2_loadHighest 50 = .ok (.iaload, 1) := by decide +kernel
theorem dX2_loadHighest_51 : decode cX2_loadHighest 51 = .ok (.invokevirtual 137, 3) := by decide +kernel
theorem dX2_loadHighest_54 : decode cX2_loadHighest 54 = .ok (.iinc 3 1, 3) := by decide +kernel
theorem dX2_loadHighest_57 : decode cX2_loadHighest 57 = .ok (.goto (-43), 3) := by decide +kernel
theorem dX2_loadHighest_60 : decode cX2_loadHighest 60 = .ok (.aload_n 0, 1) := by decide +kernel
theorem dX2_loadHighest_61 : decode cX2_loadHighest 61 = .ok (.getfield 38, 3) := by decide +kernel
theorem dX2_loadHighest_64 : decode cX2_loadHighest 64 = .ok (.aload_n 0, 1) := by decide +kernel
theorem dX2_loadHighest_65 : decode cX2_loadHighest 65 = .ok (.getfield 28, 3) := by decide +kernel
theorem dX2_loadHighest_68 : decode cX2_loadHighest 68 = .ok (.aload_n 0, 1) := by decide +kernel
theorem dX2_loadHighest_69 : decode cX2_loadHighest 69 = .ok (.getfield 24, 3) := by decide +kernel
theorem dX2_loadHighest_72 : decode cX2_loadHighest 72 = .ok (.aload_n 0, 1) := by decide +kernel
theorem dX2_loadHighest_73 : decode cX2_loadHighest 73 = .ok (.getfield 69, 3) := by decide +kernel
theorem dX2_loadHighest_76 : decode cX2_loadHighest 76 = .ok (.invokevirtual 82, 3) := by decide +kernel
theorem dX2_loadHighest_79 : decode cX2_loadHighest 79 = .ok (.return_, 1) := by decide +kernel
theorem dX2_tryLines_0 : decode cX2_tryLines 0 = .ok (.aload_n 0, 1) := by decide +kernel
theorem dX2_tryLines_1 : decode cX2_tryLines 1 = .ok (.getfield 65, 3) := by decide +kernel
theorem dX2_tryLines_4 : decode cX2_tryLines 4 = .ok (.iload_n 1, 1) := by decide +kernel
theorem dX2_tryLines_5 : decode cX2_tryLines 5 = .ok (.iload_n 2, 1) := by decide +kernel
theorem dX2_tryLines_6 : decode cX2_tryLines 6 = .ok (.iload_n 3, 1) := by decide +kernel
theorem dX2_tryLines_7 : decode cX2_tryLines 7 = .ok (.iconst 0, 1) := by decide +kernel
theorem dX2_tryLines_8 : decode cX2_tryLines 8 = .ok (.invokevirtual 141, 3) := by decide +kernel
theorem dX2_tryLines_11 : decode cX2_tryLines 11 = .ok (.aload_n 0, 1) := by decide +kernel
theorem dX2_tryLines_12 : decode cX2_tryLines 12 = .ok (.getfield 38, 3) := by decide +kernel
theorem dX2_tryLines_15 : decode cX2_tryLines 15 = .ok (.aload_n 0, 1) := by decide +kernel
theorem dX2_tryLines_16 : decode cX2_tryLines 16 = .ok (.getfield 65, 3) := by decide +kernel
theorem dX2_tryLines_19 : decode cX2_tryLines 19 = .ok (.invokevirtual 144, 3) := by decide +kernel
theorem dX2_tryLines_22 : decode cX2_tryLines 22 = .ok (.ifCond .ne 4, 3) := by decide +kernel
theorem dX2_tryLines_25 : decode cX2_tryLines 25 = .ok (.return_, 1) := by decide +kernel
theorem dX2_tryLines_26 : decode cX2_tryLines 26 = .ok (.iconst 0, 1) := by decide +kernel
theorem dX2_tryLines_27 : decode cX2_tryLines 27 = .ok (.istore 4, 2) := by decide +kernel
theorem dX2_tryLines_29 : decode cX2_tryLines 29 = .ok (.iload 4, 2) := by decide +kernel
theorem dX2_tryLines_31 : decode cX2_tryLines 31 = .ok (.aload_n 0, 1) := by decide +kernel
theorem dX2_tryLines_32 : decode cX2_tryLines 32 = .ok (.getfield 69, 3) := by decide +kernel
theorem dX2_tryLines_35 : decode cX2_tryLines 35 = .ok (.if_icmp .ge 74, 3) := by decide +kernel
theorem dX2_tryLines_38 : decode cX2_tryLines 38 = .ok (.aload_n 0, 1) := by decide +kernel
theorem dX2_tryLines_39 : decode cX2_tryLines 39 = .ok (.getfield 65, 3) := by decide +kernel
theorem dX2_tryLines_42 : decode cX2_tryLines 42 = .ok (.iload_n 1, 1) := by decide +kernel
theorem dX2_tryLines_43 : decode cX2_tryLines 43 = .ok (.iload_n 2, 1) := by decide +kernel
theorem dX2_tryLines_44 : decode cX2_tryLines 44 = .ok (.iload_n 3, 1) := by decide +kernel
theorem dX2_tryLines_45 : decode cX2_tryLines 45 = .ok (.iload 4, 2) := by decide +kernel
theorem dX2_tryLines_47 : decode cX2_tryLines 47 = .ok (.invokevirtual 141, 3) := by decide +kernel
theorem dX2_tryLines_50 : decode cX2_tryLines 50 = .ok (.aload_n 0, 1) := by decide +kernel
theorem dX2_tryLines_51 : decode cX2_tryLines 51 = .ok (.getfield 34, 3) := by decide +kernel
theorem dX2_tryLines_54 : decode cX2_tryLines 54 = .ok (.aload_n 0, 1) := by decide +kernel
theorem dX2_tryLines_55 : decode cX2_tryLines 55 = .ok (.getfield 65, 3) := by decide +kernel
theorem dX2_tryLines_58 : decode cX2_tryLines 58 = .ok (.invokevirtual 144, 3) := by decide +kernel
theorem dX2_tryLines_61 : decode cX2_tryLines 61 = .ok (.ifCond .eq 14, 3) := by decide +kernel
theorem dX2_tryLines_64 : decode cX2_tryLines 64 = .ok (.aload_n 0, 1) := by decide +kernel
theorem dX2_tryLines_65 : decode cX2_tryLines 65 = .ok (.aload_n 0, 1) := by decide +kernel
theorem dX2_tryLines_66 : decode cX2_tryLines 66 = .ok (.getfield 65, 3) := by decide +kernel
theorem dX2_tryLines_69 : decode cX2_tryLines 69 = .ok (.invokevirtual 101, 3) := by decide +kernel
theorem dX2_tryLines_72 : decode cX2_tryLines 72 = .ok (.goto 4, 3) := by decide +kernel
theorem dX2_tryLines_75 : decode cX2_tryLines 75 = .ok (.iconst 0, 1) := by decide +kernel
theorem dX2_tryLines_76 : decode cX2_tryLines 76 = .ok (.istore 5, 2) := by decide +kernel
theorem dX2_tryLines_78 : decode cX2_tryLines 78 = .ok (.iload 5, 2) := by decide +kernel
theorem dX2_tryLines_80 : decode cX2_tryLines 80 = .ok (.ifCond .le 23, 3) := by decide +kernel
theorem dX2_tryLines_83 : decode cX2_tryLines 83 = .ok (.aload_n 0, 1) := by decide +kernel
theorem dX2_tryLines_84 : decode cX2_tryLines 84 = .ok (.getfield 15, 3) := by decide +kernel
theorem dX2_tryLines_87 : decode cX2_tryLines 87 = .ok (.bipush 120, 2) := by decide +kernel
theorem dX2_tryLines_89 : decode cX2_tryLines 89 = .ok (.if_icmp .ge 14, 3) := by decide +kernel
theorem dX2_tryLines_92 : decode cX2_tryLines 92 = .ok (.aload_n 0, 1) := by decide +kernel
theorem dX2_tryLines_93 : decode cX2_tryLines 93 = .ok (.iload_n 1, 1) := by decide +kernel
theorem dX2_tryLines_94 : decode cX2_tryLines 94 = .ok (.iload_n 2, 1) := by decide +kernel
theorem dX2_tryLines_95 : decode cX2_tryLines 95 = .ok (.iload_n 3, 1) := by decide +kernel
theorem dX2_tryLines_96 : decode cX2_tryLines 96 = .ok (.iload 4, 2) := by decide +kernel
theorem dX2_tryLines_98 : decode cX2_tryLines 98 = .ok (.iload 5, 2) := by decide +kernel
theorem dX2_tryLines_100 : decode cX2_tryLines 100 = .ok (.invokevirtual 148, 3) := by decide +kernel
theorem dX2_tryLines_103 : decode cX2_tryLines 103 = .ok (.iinc 4 1, 3) := by decide +kernel
theorem dX2_tryLines_106 : decode cX2_tryLines 106 = .ok (.goto (-77), 3) := by decide +kernel
theorem dX2_tryLines_109 : decode cX2_tryLines 109 = .ok (.return_, 1) := by decide +kernel
theorem dX2_note_0 : decode cX2_note 0 = .ok (.aload_n 0, 1) := by decide +kernel
theorem dX2_note_1 : decode cX2_note 1 = .ok (.getfield 15, 3) := by decide +kernel
theorem dX2_note_4 : decode cX2_note 4 = .ok (.iconst 5, 1) := by decide +kernel
theorem dX2_note_5 : decode cX2_note 5 = .ok (.imul, 1) := by decide +kernel
theorem dX2_note_6 : decode cX2_note 6 = .ok (.istore 6, 2) := by decide +kernel
theorem dX2_note_8 : decode cX2_note 8 = .ok (.aload_n 0, 1) := by decide +kernel
theorem dX2_note_9 : decode cX2_note 9 = .ok (.getfield 11, 3) := by decide +kernel
theorem dX2_note_12 : decode cX2_note 12 = .ok (.iload 6, 2) := by decide +kernel
theorem dX2_note_14 : decode cX2_note 14 = .ok (.iload_n 1, 1) := by decide +kernel
theorem dX2_note_15 : decode cX2_note 15 = .ok (.iastore, 1) := by decide +kernel
theorem dX2_note_16 : decode cX2_note 16 = .ok (.aload_n 0, 1) := by decide +kernel
theorem dX2_note_17 : decode cX2_note 17 = .ok (.getfield 11, 3) := by decide +kernel
theorem dX2_note_20 : decode cX2_note 20 = .ok (.iload 6, 2) := by decide +kernel
theorem dX2_note_22 : decode cX2_note 22 = .ok (.iconst 1, 1) := by decide +kernel
theorem dX2_note_23 : decode cX2_note 23 = .ok (.iadd, 1) := by decide +kernel
theorem dX2_note_24 : decode cX2_note 24 = .ok (.iload_n 2, 1) := by decide +kernel
theorem dX2_note_25 : decode cX2_note 25 = .ok (.iastore, 1) := by decide +kernel
theorem dX2_note_26 : decode cX2_note 26 = .ok (.aload_n 0, 1) := by decide +kernel
theorem dX2_note_27 : decode cX2_note 27 = .ok (.getfield 11, 3) := by decide +kernel
theorem dX2_note_30 : decode cX2_note 30 = .ok (.iload 6, 2) := by decide +kernel
theorem dX2_note_32 : decode cX2_note 32 = .ok (.iconst 2, 1) := by decide +kernel
theorem dX2_note_33 : decode cX2_note 33 = .ok (.iadd, 1) := by decide +kernel
theorem dX2_note_34 : decode cX2_note 34 = .ok (.iload_n 3, 1) := by decide +kernel
theorem dX2_note_35 : decode cX2_note 35 = .ok (.iastore, 1) := by decide +kernel
theorem dX2_note_36 : decode cX2_note 36 = .ok (.aload_n 0, 1) := by decide +kernel
theorem dX2_note_37 : decode cX2_note 37 = .ok (.getfield 11, 3) := by decide +kernel
theorem dX2_note_40 : decode cX2_note 40 = .ok (.iload 6, 2) := by decide +kernel
theorem dX2_note_42 : decode cX2_note 42 = .ok (.iconst 3, 1) := by decide +kernel
theorem dX2_note_43 : decode cX2_note 43 = .ok (.iadd, 1) := by decide +kernel
theorem dX2_note_44 : decode cX2_note 44 = .ok (.iload 4, 2) := by decide +kernel
theorem dX2_note_46 : decode cX2_note 46 = .ok (.iastore, 1) := by decide +kernel
theorem dX2_note_47 : decode cX2_note 47 = .ok (.aload_n 0, 1) := by decide +kernel
theorem dX2_note_48 : decode cX2_note 48 = .ok (.getfield 11, 3) := by decide +kernel
theorem dX2_note_51 : decode cX2_note 51 = .ok (.iload 6, 2) := by decide +kernel
theorem dX2_note_53 : decode cX2_note 53 = .ok (.iconst 4, 1) := by decide +kernel
theorem dX2_note_54 : decode cX2_note 54 = .ok (.iadd, 1) := by decide +kernel
theorem dX2_note_55 : decode cX2_note 55 = .ok (.iload 5, 2) := by decide +kernel
theorem dX2_note_57 : decode cX2_note 57 = .ok (.iastore, 1) := by decide +kernel
theorem dX2_note_58 : decode cX2_note 58 = .ok (.aload_n 0, 1) := by decide +kernel
theorem dX2_note_59 : decode cX2_note 59 = .ok (.dup, 1) := by decide +kernel
theorem dX2_note_60 : decode cX2_note 60 = .ok (.getfield 15, 3) := by decide +kernel
theorem dX2_note_63 : decode cX2_note 63 = .ok (.iconst 1, 1) := by decide +kernel
theorem dX2_note_64 : decode cX2_note 64 = .ok (.iadd, 1) := by decide +kernel
theorem dX2_note_65 : decode cX2_note 65 = .ok (.putfield 15, 3) := by decide +kernel
theorem dX2_note_68 : decode cX2_note 68 = .ok (.return_, 1) := by decide +kernel
theorem dX2_takeOut_0 : decode cX2_takeOut 0 = .ok (.aload_n 1, 1) := by decide +kernel
theorem dX2_takeOut_1 : decode cX2_takeOut 1 = .ok (.invokevirtual 152, 3) := by decide +kernel
theorem dX2_takeOut_4 : decode cX2_takeOut 4 = .ok (.ifCond .eq 13, 3) := by decide +kernel
theorem dX2_takeOut_7 : decode cX2_takeOut 7 = .ok (.aload_n 0, 1) := by decide +kernel
theorem dX2_takeOut_8 : decode cX2_takeOut 8 = .ok (.getfield 57, 3) := by decide +kernel
theorem dX2_takeOut_11 : decode cX2_takeOut 11 = .ok (.aload_n 1, 1) := by decide +kernel
theorem dX2_takeOut_12 : decode cX2_takeOut 12 = .ok (.getfield 156, 3) := by decide +kernel
theorem dX2_takeOut_15 : decode cX2_takeOut 15 = .ok (.iaload, 1) := by decide +kernel
theorem dX2_takeOut_16 : decode cX2_takeOut 16 = .ok (.ireturn, 1) := by decide +kernel
theorem dX2_takeOut_17 : decode cX2_takeOut 17 = .ok (.iconst 0, 1) := by decide +kernel
theorem dX2_takeOut_18 : decode cX2_takeOut 18 = .ok (.istore_n 2, 1) := by decide +kernel
theorem dX2_takeOut_19 : decode cX2_takeOut 19 = .ok (.iload_n 2, 1) := by decide +kernel
theorem dX2_takeOut_20 : decode cX2_takeOut 20 = .ok (.bipush 40, 2) := by decide +kernel
theorem dX2_takeOut_22 : decode cX2_takeOut 22 = .ok (.if_icmp .gt 17, 3) := by decide +kernel
theorem dX2_takeOut_25 : decode cX2_takeOut 25 = .ok (.aload_n 0, 1) := by decide +kernel
theorem dX2_takeOut_26 : decode cX2_takeOut 26 = .ok (.aload_n 1, 1) := by decide +kernel
theorem dX2_takeOut_27 : decode cX2_takeOut 27 = .ok (.invokevirtual 159, 3) := by decide +kernel
theorem dX2_takeOut_30 : decode cX2_takeOut 30 = .ok (.ifCond .eq 9, 3) := by decide +kernel
theorem dX2_takeOut_33 : decode cX2_takeOut 33 = .ok (.iinc 2 1, 3) := by decide +kernel
theorem dX2_takeOut_36 : decode cX2_takeOut 36 = .ok (.goto (-17), 3) := by decide +kernel
theorem dX2_takeOut_39 : decode cX2_takeOut 39 = .ok (.iload_n 2, 1) := by decide +kernel
theorem dX2_takeOut_40 : decode cX2_takeOut 40 = .ok (.ireturn, 1) := by decide +kernel
theorem dX2_canGoIn_0 : decode cX2_canGoIn 0 = .ok (.aload_n 0, 1) := by decide +kernel
theorem dX2_canGoIn_1 : decode cX2_canGoIn 1 = .ok (.getfield 51, 3) := by decide +kernel
theorem dX2_canGoIn_4 : decode cX2_canGoIn 4 = .ok (.aload_n 1, 1) := by decide +kernel
theorem dX2_canGoIn_5 : decode cX2_canGoIn 5 = .ok (.getfield 156, 3) := by decide +kernel
theorem dX2_canGoIn_8 : decode cX2_canGoIn 8 = .ok (.iaload, 1) := by decide +kernel
theorem dX2_canGoIn_9 : decode cX2_canGoIn 9 = .ok (.ifCond .le 45, 3) := by decide +kernel
theorem dX2_canGoIn_12 : decode cX2_canGoIn 12 = .ok (.aload_n 1, 1) := by decide +kernel
theorem dX2_canGoIn_13 : decode cX2_canGoIn 13 = .ok (.getfield 162, 3) := by decide +kernel
theorem dX2_canGoIn_16 : decode cX2_canGoIn 16 = .ok (.ifCond .eq 15, 3) := by decide +kernel
theorem dX2_canGoIn_19 : decode cX2_canGoIn 19 = .ok (.aload_n 0, 1) := by decide +kernel
theorem dX2_canGoIn_20 : decode cX2_canGoIn 20 = .ok (.getfield 51, 3) := by decide +kernel
theorem dX2_canGoIn_23 : decode cX2_canGoIn 23 = .ok (.aload_n 1, 1) := by decide +kernel
theorem dX2_canGoIn_24 : decode cX2_canGoIn 24 = .ok (.getfield 165, 3) := by decide +kernel
theorem dX2_canGoIn_27 : decode cX2_canGoIn 27 = .ok (.iaload, 1) := by decide +kernel
theorem dX2_canGoIn_28 : decode cX2_canGoIn 28 = .ok (.ifCond .le 26, 3) := by decide +kernel
theorem dX2_canGoIn_31 : decode cX2_canGoIn 31 = .ok (.aload_n 1, 1) := by decide +kernel
theorem dX2_canGoIn_32 : decode cX2_canGoIn 32 = .ok (.getfield 168, 3) := by decide +kernel
theorem dX2_canGoIn_35 : decode cX2_canGoIn 35 = .ok (.ifCond .eq 15, 3) := by decide +kernel
theorem dX2_canGoIn_38 : decode cX2_canGoIn 38 = .ok (.aload_n 0, 1) := by decide +kernel
theorem dX2_canGoIn_39 : decode cX2_canGoIn 39 = .ok (.getfield 51, 3) := by decide +kernel
theorem dX2_canGoIn_42 : decode cX2_canGoIn 42 = .ok (.aload_n 1, 1) := by decide +kernel
theorem dX2_canGoIn_43 : decode cX2_canGoIn 43 = .ok (.getfield 171, 3) := by decide +kernel
theorem dX2_canGoIn_46 : decode cX2_canGoIn 46 = .ok (.iaload, 1) := by decide +kernel
theorem dX2_canGoIn_47 : decode cX2_canGoIn 47 = .ok (.ifCond .le 7, 3) := by decide +kernel
theorem dX2_canGoIn_50 : decode cX2_canGoIn 50 = .ok (.iconst 1, 1) := by decide +kernel
theorem dX2_canGoIn_51 : decode cX2_canGoIn 51 = .ok (.goto 4, 3) := by decide +kernel
theorem dX2_canGoIn_54 : decode cX2_canGoIn 54 = .ok (.iconst 0, 1) := by decide +kernel
theorem dX2_canGoIn_55 : decode cX2_canGoIn 55 = .ok (.ireturn, 1) := by decide +kernel
theorem dX2_divide_0 : decode cX2_divide 0 = .ok (.aload_n 0, 1) := by decide +kernel
theorem dX2_divide_1 : decode cX2_divide 1 = .ok (.aload_n 1, 1) := by decide +kernel
theorem dX2_divide_2 : decode cX2_divide 2 = .ok (.invokevirtual 174, 3) := by decide +kernel
theorem dX2_divide_5 : decode cX2_divide 5 = .ok (.ifCond .ne 5, 3) := by decide +kernel
theorem dX2_divide_8 : decode cX2_divide 8 = .ok (.iconst 0, 1) := by decide +kernel
theorem dX2_divide_9 : decode cX2_divide 9 = .ok (.ireturn, 1) := by decide +kernel
theorem dX2_divide_10 : decode cX2_divide 10 = .ok (.aload_n 0, 1) := by decide +kernel
theorem dX2_divide_11 : decode cX2_divide 11 = .ok (.getfield 48, 3) := by decide +kernel
theorem dX2_divide_14 : decode cX2_divide 14 = .ok (.aload_n 0, 1) := by decide +kernel
theorem dX2_divide_15 : decode cX2_divide 15 = .ok (.getfield 44, 3) := by decide +kernel
theorem dX2_divide_18 : decode cX2_divide 18 = .ok (.invokevirtual 177, 3) := by decide +kernel
theorem dX2_divide_21 : decode cX2_divide 21 = .ok (.aload_n 0, 1) := by decide +kernel
theorem dX2_divide_22 : decode cX2_divide 22 = .ok (.getfield 51, 3) := by decide +kernel
theorem dX2_divide_25 : decode cX2_divide 25 = .ok (.aload_n 1, 1) := by decide +kernel
theorem dX2_divide_26 : decode cX2_divide 26 = .ok (.getfield 156, 3) := by decide +kernel
theorem dX2_divide_29 : decode cX2_divide 29 = .ok (.iaload, 1) := by decide +kernel
theorem dX2_divide_30 : decode cX2_divide 30 = .ok (.istore_n 2, 1) := by decide +kernel
theorem dX2_divide_31 : decode cX2_divide 31 = .ok (.iload_n 2, 1) := by decide +kernel
theorem dX2_divide_32 : decode cX2_divide 32 = .ok (.ifCond .le 20, 3) := by decide +kernel
theorem dX2_divide_35 : decode cX2_divide 35 = .ok (.aload_n 0, 1) := by decide +kernel
theorem dX2_divide_36 : decode cX2_divide 36 = .ok (.aload_n 1, 1) := by decide +kernel
theorem dX2_divide_37 : decode cX2_divide 37 = .ok (.iload_n 2, 1) := by decide +kernel
theorem dX2_divide_38 : decode cX2_divide 38 = .ok (.invokevirtual 181, 3) := by decide +kernel
theorem dX2_divide_41 : decode cX2_divide 41 = .ok (.ifCond .ne 5, 3) := by decide +kernel
theorem dX2_divide_44 : decode cX2_divide 44 = .ok (.iconst 0, 1) := by decide +kernel
theorem dX2_divide_45 : decode cX2_divide 45 = .ok (.ireturn, 1) := by decide +kernel
theorem dX2_divide_46 : decode cX2_divide 46 = .ok (.iinc 2 (-1), 3) := by decide +kernel
theorem dX2_divide_49 : decode cX2_divide 49 = .ok (.goto (-18), 3) := by decide +kernel
theorem dX2_divide_52 : decode cX2_divide 52 = .ok (.aload_n 0, 1) := by decide +kernel
theorem dX2_divide_53 : decode cX2_divide 53 = .ok (.aload_n 1, 1) := by decide +kernel
theorem dX2_divide_54 : decode cX2_divide 54 = .ok (.invokevirtual 185, 3) := by decide +kernel
theorem dX2_divide_57 : decode cX2_divide 57 = .ok (.ifCond .ne 5, 3) := by decide +kernel
theorem dX2_divide_60 : decode cX2_divide 60 = .ok (.iconst 0, 1) := by decide +kernel
theorem dX2_divide_61 : decode cX2_divide 61 = .ok (.ireturn, 1) := by decide +kernel
theorem dX2_divide_62 : decode cX2_divide 62 = .ok (.aload_n 0, 1) := by decide +kernel
theorem dX2_divide_63 : decode cX2_divide 63 = .ok (.aload_n 1, 1) := by decide +kernel
theorem dX2_divide_64 : decode cX2_divide 64 = .ok (.invokevirtual 188, 3) := by decide +kernel
theorem dX2_divide_67 : decode cX2_divide 67 = .ok (.aload_n 0, 1) := by decide +kernel
theorem dX2_divide_68 : decode cX2_divide 68 = .ok (.dup, 1) := by decide +kernel
theorem dX2_divide_69 : decode cX2_divide 69 = .ok (.getfield 54, 3) := by decide +kernel
theorem dX2_divide_72 : decode cX2_divide 72 = .ok (.iconst 1, 1) := by decide +kernel
theorem dX2_divide_73 : decode cX2_divide 73 = .ok (.isub, 1) := by decide +kernel
theorem dX2_divide_74 : decode cX2_divide 74 = .ok (.putfield 54, 3) := by decide +kernel
theorem dX2_divide_77 : decode cX2_divide 77 = .ok (.aload_n 0, 1) := by decide +kernel
theorem dX2_divide_78 : decode cX2_divide 78 = .ok (.getfield 51, 3) := by decide +kernel
theorem dX2_divide_81 : decode cX2_divide 81 = .ok (.aload_n 1, 1) := by decide +kernel
theorem dX2_divide_82 : decode cX2_divide 82 = .ok (.getfield 156, 3) := by decide +kernel
theorem dX2_divide_85 : decode cX2_divide 85 = .ok (.dup2, 1) := by decide +kernel
theorem dX2_divide_86 : decode cX2_divide 86 = .ok (.iaload, 1) := by decide +kernel
theorem dX2_divide_87 : decode cX2_divide 87 = .ok (.iconst 1, 1) := by decide +kernel
theorem dX2_divide_88 : decode cX2_divide 88 = .ok (.isub, 1) := by decide +kernel
theorem dX2_divide_89 : decode cX2_divide 89 = .ok (.iastore, 1) := by decide +kernel
theorem dX2_divide_90 : decode cX2_divide 90 = .ok (.aload_n 0, 1) := by decide +kernel
theorem dX2_divide_91 : decode cX2_divide 91 = .ok (.getfield 51, 3) := by decide +kernel
theorem dX2_divide_94 : decode cX2_divide 94 = .ok (.aload_n 1, 1) := by decide +kernel
theorem dX2_divide_95 : decode cX2_divide 95 = .ok (.getfield 165, 3) := by decide +kernel
theorem dX2_divide_98 : decode cX2_divide 98 = .ok (.dup2, 1) := by decide +kernel
theorem dX2_divide_99 : decode cX2_divide 99 = .ok (.iaload, 1) := by decide +kernel
theorem dX2_divide_100 : decode cX2_divide 100 = .ok (.aload_n 1, 1) := by decide +kernel
theorem dX2_divide_101 : decode cX2_divide 101 = .ok (.getfield 162, 3) := by decide +kernel
theorem dX2_divide_104 : decode cX2_divide 104 = .ok (.ifCond .ne 7, 3) := by decide +kernel
theorem dX2_divide_107 : decode cX2_divide 107 = .ok (.iconst 0, 1) := by decide +kernel
theorem dX2_divide_108 : decode cX2_divide 108 = .ok (.goto 4, 3) := by decide +kernel
theorem dX2_divide_111 : decode cX2_divide 111 = .ok (.iconst 1, 1) := by decide +kernel
theorem dX2_divide_112 : decode cX2_divide 112 = .ok (.isub, 1) := by decide +kernel
theorem dX2_divide_113 : decode cX2_divide 113 = .ok (.iastore, 1) := by decide +kernel
theorem dX2_divide_114 : decode cX2_divide 114 = .ok (.aload_n 0, 1) := by decide +kernel
theorem dX2_divide_115 : decode cX2_divide 115 = .ok (.getfield 51, 3) := by decide +kernel
theorem dX2_divide_118 : decode cX2_divide 118 = .ok (.aload_n 1, 1) := by decide +kernel
theorem dX2_divide_119 : decode cX2_divide 119 = .ok (.getfield 171, 3) := by decide +kernel
theorem dX2_divide_122 : decode cX2_divide 122 = .ok (.dup2, 1) := by decide +kernel
theorem dX2_divide_123 : decode cX2_divide 123 = .ok (.iaload, 1) := by decide +kernel
theorem dX2_divide_124 : decode cX2_divide 124 = .ok (.aload_n 1, 1) := by decide +kernel
theorem dX2_divide_125 : decode cX2_divide 125 = .ok (.getfield 168, 3) := by decide +kernel
theorem dX2_divide_128 : decode cX2_divide 128 = .ok (.ifCond .ne 7, 3) := by decide +kernel
theorem dX2_divide_131 : decode cX2_divide 131 = .ok (.iconst 0, 1) := by decide +kernel
theorem dX2_divide_132 : decode cX2_divide 132 = .ok (.goto 4, 3) := by decide +kernel
theorem dX2_divide_135 : decode cX2_divide 135 = .ok (.iconst 1, 1) := by decide +kernel
theorem dX2_divide_136 : decode cX2_divide 136 = .ok (.isub, 1) := by decide +kernel
theorem dX2_divide_137 : decode cX2_divide 137 = .ok (.iastore, 1) := by decide +kernel
theorem dX2_divide_138 : decode cX2_divide 138 = .ok (.aload_n 0, 1) := by decide +kernel
theorem dX2_divide_139 : decode cX2_divide 139 = .ok (.getfield 44, 3) := by decide +kernel
theorem dX2_divide_142 : decode cX2_divide 142 = .ok (.aload_n 0, 1) := by decide +kernel
theorem dX2_divide_143 : decode cX2_divide 143 = .ok (.getfield 51, 3) := by decide +kernel
theorem dX2_divide_146 : decode cX2_divide 146 = .ok (.iconst 0, 1) := by decide +kernel
theorem dX2_divide_147 : decode cX2_divide 147 = .ok (.iaload, 1) := by decide +kernel
theorem dX2_divide_148 : decode cX2_divide 148 = .ok (.aload_n 0, 1) := by decide +kernel
theorem dX2_divide_149 : decode cX2_divide 149 = .ok (.getfield 51, 3) := by decide +kernel
theorem dX2_divide_152 : decode cX2_divide 152 = .ok (.iconst 1, 1) := by decide +kernel
theorem dX2_divide_153 : decode cX2_divide 153 = .ok (.iaload, 1) := by decide +kernel
theorem dX2_divide_154 : decode cX2_divide 154 = .ok (.aload_n 0, 1) := by decide +kernel
theorem dX2_divide_155 : decode cX2_divide 155 = .ok (.getfield 51, 3) := by decide +kernel
theorem dX2_divide_158 : decode cX2_divide 158 = .ok (.iconst 2, 1) := by decide +kernel
theorem dX2_divide_159 : decode cX2_divide 159 = .ok (.iaload, 1) := by decide +kernel
theorem dX2_divide_160 : decode cX2_divide 160 = .ok (.invokevirtual 192, 3) := by decide +kernel
theorem dX2_divide_163 : decode cX2_divide 163 = .ok (.iconst 1, 1) := by decide +kernel
theorem dX2_divide_164 : decode cX2_divide 164 = .ok (.ireturn, 1) := by decide +kernel
theorem dX2_divideSlice_0 : decode cX2_divideSlice 0 = .ok (.aload_n 0, 1) := by decide +kernel
theorem dX2_divideSlice_1 : decode cX2_divideSlice 1 = .ok (.getfield 48, 3) := by decide +kernel
theorem dX2_divideSlice_4 : decode cX2_divideSlice 4 = .ok (.getfield 122, 3) := by decide +kernel
theorem dX2_divideSlice_7 : decode cX2_divideSlice 7 = .ok (.astore_n 3, 1) := by decide +kernel
theorem dX2_divideSlice_8 : decode cX2_divideSlice 8 = .ok (.aload_n 0, 1) := by decide +kernel
theorem dX2_divideSlice_9 : decode cX2_divideSlice 9 = .ok (.getfield 48, 3) := by decide +kernel
theorem dX2_divideSlice_12 : decode cX2_divideSlice 12 = .ok (.getfield 195, 3) := by decide +kernel
theorem dX2_divideSlice_15 : decode cX2_divideSlice 15 = .ok (.aload_n 1, 1) := by decide +kernel
theorem dX2_divideSlice_16 : decode cX2_divideSlice 16 = .ok (.getfield 156, 3) := by decide +kernel
theorem dX2_divideSlice_19 : decode cX2_divideSlice 19 = .ok (.iaload, 1) := by decide +kernel
theorem dX2_divideSlice_20 : decode cX2_divideSlice 20 = .ok (.istore 4, 2) := by decide +kernel
theorem dX2_divideSlice_22 : decode cX2_divideSlice 22 = .ok (.aload_n 0, 1) := by decide +kernel
theorem dX2_divideSlice_23 : decode cX2_divideSlice 23 = .ok (.getfield 48, 3) := by decide +kernel
theorem dX2_divideSlice_26 : decode cX2_divideSlice 26 = .ok (.getfield 195, 3) := by decide +kernel
theorem dX2_divideSlice_29 : decode cX2_divideSlice 29 = .ok (.aload_n 1, 1) := by decide +kernel
theorem dX2_divideSlice_30 : decode cX2_divideSlice 30 = .ok (.getfield 165, 3) := by decide +kernel
theorem dX2_divideSlice_33 : decode cX2_divideSlice 33 = .ok (.iaload, 1) := by decide +kernel
theorem dX2_divideSlice_34 : decode cX2_divideSlice 34 = .ok (.istore 5, 2) := by decide +kernel
theorem dX2_divideSlice_36 : decode cX2_divideSlice 36 = .ok (.aload_n 0, 1) := by decide +kernel
theorem dX2_divideSlice_37 : decode cX2_divideSlice 37 = .ok (.getfield 48, 3) := by decide +kernel
theorem dX2_divideSlice_40 : decode cX2_divideSlice 40 = .ok (.getfield 195, 3) := by decide +kernel
theorem dX2_divideSlice_43 : decode cX2_divideSlice 43 = .ok (.aload_n 1, 1) := by decide +kernel
theorem dX2_divideSlice_44 : decode cX2_divideSlice 44 = .ok (.getfield 171, 3) := by decide +kernel
theorem dX2_divideSlice_47 : decode cX2_divideSlice 47 = .ok (.iaload, 1) := by decide +kernel
theorem dX2_divideSlice_48 : decode cX2_divideSlice 48 = .ok (.istore 6, 2) := by decide +kernel
theorem dX2_divideSlice_50 : decode cX2_divideSlice 50 = .ok (.aload_n 1, 1) := by decide +kernel
theorem dX2_divideSlice_51 : decode cX2_divideSlice 51 = .ok (.getfield 162, 3) := by decide +kernel
theorem dX2_divideSlice_54 : decode cX2_divideSlice 54 = .ok (.ifCond .ne 7, 3) := by decide +kernel
theorem dX2_divideSlice_57 : decode cX2_divideSlice 57 = .ok (.iconst 0, 1) := by decide +kernel
theorem dX2_divideSlice_58 : decode cX2_divideSlice 58 = .ok (.goto 12, 3) := by decide +kernel
theorem dX2_divideSlice_61 : decode cX2_divideSlice 61 = .ok (.aload_n 0, 1) := by decide +kernel
theorem dX2_divideSlice_62 : decode cX2_divideSlice 62 = .ok (.getfield 69, 3) := by decide +kernel
theorem dX2_divideSlice_65 : decode cX2_divideSlice 65 = .ok (.aload_n 1, 1) := by decide +kernel
theorem dX2_divideSlice_66 : decode cX2_divideSlice 66 = .ok (.getfield 162, 3) := by decide +kernel
theorem dX2_divideSlice_69 : decode cX2_divideSlice 69 = .ok (.isub, 1) := by decide +kernel
theorem dX2_divideSlice_70 : decode cX2_divideSlice 70 = .ok (.istore 7, 2) := by decide +kernel
theorem dX2_divideSlice_72 : decode cX2_divideSlice 72 = .ok (.aload_n 1, 1) := by decide +kernel
theorem dX2_divideSlice_73 : decode cX2_divideSlice 73 = .ok (.getfield 168, 3) := by decide +kernel
theorem dX2_divideSlice_76 : decode cX2_divideSlice 76 = .ok (.ifCond .ne 7, 3) := by decide +kernel
theorem dX2_divideSlice_79 : decode cX2_divideSlice 79 = .ok (.iconst 0, 1) := by decide +kernel
theorem dX2_divideSlice_80 : decode cX2_divideSlice 80 = .ok (.goto 12, 3) := by decide +kernel
theorem dX2_divideSlice_83 : decode cX2_divideSlice 83 = .ok (.aload_n 0, 1) := by decide +kernel
theorem dX2_divideSlice_84 : decode cX2_divideSlice 84 = .ok (.getfield 69, 3) := by decide +kernel
theorem dX2_divideSlice_87 : decode cX2_divideSlice 87 = .ok (.aload_n 1, 1) := by decide +kernel
theorem dX2_divideSlice_88 : decode cX2_divideSlice 88 = .ok (.getfield 168, 3) := by decide +kernel
theorem dX2_divideSlice_91 : decode cX2_divideSlice 91 = .ok (.isub, 1) := by decide +kernel
theorem dX2_divideSlice_92 : decode cX2_divideSlice 92 = .ok (.istore 8, 2) := by decide +kernel
theorem dX2_divideSlice_94 : decode cX2_divideSlice 94 = .ok (.aload_n 1, 1) := by decide +kernel
theorem dX2_divideSlice_95 : decode cX2_divideSlice 95 = .ok (.getfield 198, 3) := by decide +kernel
theorem dX2_divideSlice_98 : decode cX2_divideSlice 98 = .ok (.ifCond .ne 7, 3) := by decide +kernel
theorem dX2_divideSlice_101 : decode cX2_divideSlice 101 = .ok (.iconst 0, 1) := by decide +kernel
theorem dX2_divideSlice_102 : decode cX2_divideSlice 102 = .ok (.goto 12, 3) := by decide +kernel
theorem dX2_divideSlice_105 : decode cX2_divideSlice 105 = .ok (.aload_n 0, 1) := by decide +kernel
theorem dX2_divideSlice_106 : decode cX2_divideSlice 106 = .ok (.getfield 69, 3) := by decide +kernel
theorem dX2_divideSlice_109 : decode cX2_divideSlice 109 = .ok (.aload_n 1, 1) := by decide +kernel
theorem dX2_divideSlice_110 : decode cX2_divideSlice 110 = .ok (.getfield 198, 3) := by decide +kernel
theorem dX2_divideSlice_113 : decode cX2_divideSlice 113 = .ok (.isub, 1) := by decide +kernel
theorem dX2_divideSlice_114 : decode cX2_divideSlice 114 = .ok (.istore 9, 2) := by decide +kernel
theorem dX2_divideSlice_116 : decode cX2_divideSlice 116 = .ok (.aload_n 0, 1) := by decide +kernel
theorem dX2_divideSlice_117 : decode cX2_divideSlice 117 = .ok (.getfield 51, 3) := by decide +kernel
theorem dX2_divideSlice_120 : decode cX2_divideSlice 120 = .ok (.aload_n 1, 1) := by decide +kernel
theorem dX2_divideSlice_121 : decode cX2_divideSlice 121 = .ok (.getfield 165, 3) := by decide +kernel
theorem dX2_divideSlice_124 : decode cX2_divideSlice 124 = .ok (.iaload, 1) := by decide +kernel
theorem dX2_divideSlice_125 : decode cX2_divideSlice 125 = .ok (.istore 10, 2) := by decide +kernel
theorem dX2_divideSlice_127 : decode cX2_divideSlice 127 = .ok (.aload_n 0, 1) := by decide +kernel
theorem dX2_divideSlice_128 : decode cX2_divideSlice 128 = .ok (.getfield 51, 3) := by decide +kernel
theorem dX2_divideSlice_131 : decode cX2_divideSlice 131 = .ok (.aload_n 1, 1) := by decide +kernel
theorem dX2_divideSlice_132 : decode cX2_divideSlice 132 = .ok (.getfield 171, 3) := by decide +kernel
theorem dX2_divideSlice_135 : decode cX2_divideSlice 135 = .ok (.iaload, 1) := by decide +kernel
theorem dX2_divideSlice_136 : decode cX2_divideSlice 136 = .ok (.istore 11, 2) := by decide +kernel
theorem dX2_divideSlice_138 : decode cX2_divideSlice 138 = .ok (.iconst 0, 1) := by decide +kernel
theorem dX2_divideSlice_139 : decode cX2_divideSlice 139 = .ok (.istore 12, 2) := by decide +kernel
theorem dX2_divideSlice_141 : decode cX2_divideSlice 141 = .ok (.iload 12, 2) := by decide +kernel
theorem dX2_divideSlice_143 : decode cX2_divideSlice 143 = .ok (.iload 10, 2) := by decide +kernel
theorem dX2_divideSlice_145 : decode cX2_divideSlice 145 = .ok (.aload_n 0, 1) := by decide +kernel
theorem dX2_divideSlice_146 : decode cX2_divideSlice 146 = .ok (.getfield 54, 3) := by decide +kernel
theorem dX2_divideSlice_149 : decode cX2_divideSlice 149 = .ok (.iload_n 2, 1) := by decide +kernel
theorem dX2_divideSlice_150 : decode cX2_divideSlice 150 = .ok (.isub, 1) := by decide +kernel
theorem dX2_divideSlice_151 : decode cX2_divideSlice 151 = .ok (.invokestatic 201, 3) := by decide +kernel
theorem dX2_divideSlice_154 : decode cX2_divideSlice 154 = .ok (.if_icmp .gt 169, 3) := by decide +kernel
theorem dX2_divideSlice_157 : decode cX2_divideSlice 157 = .ok (.iload 11, 2) := by decide +kernel
theorem dX2_divideSlice_159 : decode cX2_divideSlice 159 = .ok (.aload_n 0, 1) := by decide +kernel
theorem dX2_divideSlice_160 : decode cX2_divideSlice 160 = .ok (.getfield 54, 3) := by decide +kernel
theorem dX2_divideSlice_163 : decode cX2_divideSlice 163 = .ok (.iload_n 2, 1) := by decide +kernel
theorem dX2_divideSlice_164 : decode cX2_divideSlice 164 = .ok (.isub, 1) := by decide +kernel
theorem dX2_divideSlice_165 : decode cX2_divideSlice 165 = .ok (.iload 12, 2) := by decide +kernel
theorem dX2_divideSlice_167 : decode cX2_divideSlice 167 = .ok (.isub, 1) := by decide +kernel
theorem dX2_divideSlice_168 : decode cX2_divideSlice 168 = .ok (.invokestatic 201, 3) := by decide +kernel
theorem dX2_divideSlice_171 : decode cX2_divideSlice 171 = .ok (.istore 13, 2) := by decide +kernel
theorem dX2_divideSlice_173 : decode cX2_divideSlice 173 = .ok (.iconst 0, 1) := by decide +kernel
theorem dX2_divideSlice_174 : decode cX2_divideSlice 174 = .ok (.istore 14, 2) := by decide +kernel
theorem dX2_divideSlice_176 : decode cX2_divideSlice 176 = .ok (.iload 14, 2) := by decide +kernel
theorem dX2_divideSlice_178 : decode cX2_divideSlice 178 = .ok (.iload 13, 2) := by decide +kernel
theorem dX2_divideSlice_180 : decode cX2_divideSlice 180 = .ok (.if_icmp .gt 137, 3) := by decide +kernel
theorem dX2_divideSlice_183 : decode cX2_divideSlice 183 = .ok (.iload_n 2, 1) := by decide +kernel
theorem dX2_divideSlice_184 : decode cX2_divideSlice 184 = .ok (.iload 4, 2) := by decide +kernel
theorem dX2_divideSlice_186 : decode cX2_divideSlice 186 = .ok (.imul, 1) := by decide +kernel
theorem dX2_divideSlice_187 : decode cX2_divideSlice 187 = .ok (.iload 12, 2) := by decide +kernel
theorem dX2_divideSlice_189 : decode cX2_divideSlice 189 = .ok (.iload 5, 2) := by decide +kernel
theorem dX2_divideSlice_191 : decode cX2_divideSlice 191 = .ok (.imul, 1) := by decide +kernel
theorem dX2_divideSlice_192 : decode cX2_divideSlice 192 = .ok (.iadd, 1) := by decide +kernel
theorem dX2_divideSlice_193 : decode cX2_divideSlice 193 = .ok (.iload 14, 2) := by decide +kernel
theorem dX2_divideSlice_195 : decode cX2_divideSlice 195 = .ok (.iload 6, 2) := by decide +kernel
theorem dX2_divideSlice_197 : decode cX2_divideSlice 197 = .ok (.imul, 1) := by decide +kernel
theorem dX2_divideSlice_198 : decode cX2_divideSlice 198 = .ok (.iadd, 1) := by decide +kernel
theorem dX2_divideSlice_199 : decode cX2_divideSlice 199 = .ok (.istore 15, 2) := by decide +kernel
theorem dX2_divideSlice_201 : decode cX2_divideSlice 201 = .ok (.aload_n 3, 1) := by decide +kernel
theorem dX2_divideSlice_202 : decode cX2_divideSlice 202 = .ok (.iload 15, 2) := by decide +kernel
theorem dX2_divideSlice_204 : decode cX2_divideSlice 204 = .ok (.iaload, 1) := by decide +kernel
theorem dX2_divideSlice_205 : decode cX2_divideSlice 205 = .ok (.aload_n 0, 1) := by decide +kernel
theorem dX2_divideSlice_206 : decode cX2_divideSlice 206 = .ok (.getfield 69, 3) := by decide +kernel
theorem dX2_divideSlice_209 : decode cX2_divideSlice 209 = .ok (.irem, 1) := by decide +kernel
theorem dX2_divideSlice_210 : decode cX2_divideSlice 210 = .ok (.istore 16, 2) := by decide +kernel
theorem dX2_divideSlice_212 : decode cX2_divideSlice 212 = .ok (.aload_n 3, 1) := by decide +kernel
theorem dX2_divideSlice_213 : decode cX2_divideSlice 213 = .ok (.iload 15, 2) := by decide +kernel
theorem dX2_divideSlice_215 : decode cX2_divideSlice 215 = .ok (.iload 16, 2) := by decide +kernel
theorem dX2_divideSlice_217 : decode cX2_divideSlice 217 = .ok (.iastore, 1) := by decide +kernel
theorem dX2_divideSlice_218 : decode cX2_divideSlice 218 = .ok (.iload 16, 2) := by decide +kernel
theorem dX2_divideSlice_220 : decode cX2_divideSlice 220 = .ok (.ifCond .ne 6, 3) := by decide +kernel
theorem dX2_divideSlice_223 : decode cX2_divideSlice 223 = .ok (.goto 88, 3) := by decide +kernel
theorem dX2_divideSlice_226 : decode cX2_divideSlice 226 = .ok (.iload 7, 2) := by decide +kernel
theorem dX2_divideSlice_228 : decode cX2_divideSlice 228 = .ok (.ifCond .eq 10, 3) := by decide +kernel
theorem dX2_divideSlice_231 : decode cX2_divideSlice 231 = .ok (.iload 12, 2) := by decide +kernel
theorem dX2_divideSlice_233 : decode cX2_divideSlice 233 = .ok (.iload 10, 2) := by decide +kernel
theorem dX2_divideSlice_235 : decode cX2_divideSlice 235 = .ok (.if_icmp .eq 15, 3) := by decide +kernel
theorem dX2_divideSlice_238 : decode cX2_divideSlice 238 = .ok (.iload 8, 2) := by decide +kernel
theorem dX2_divideSlice_240 : decode cX2_divideSlice 240 = .ok (.ifCond .eq 12, 3) := by decide +kernel
theorem dX2_divideSlice_243 : decode cX2_divideSlice 243 = .ok (.iload 14, 2) := by decide +kernel
theorem dX2_divideSlice_245 : decode cX2_divideSlice 245 = .ok (.iload 11, 2) := by decide +kernel
theorem dX2_divideSlice_247 : decode cX2_divideSlice 247 = .ok (.if_icmp .ne 5, 3) := by decide +kernel
theorem dX2_divideSlice_250 : decode cX2_divideSlice 250 = .ok (.iconst 0, 1) := by decide +kernel
theorem dX2_divideSlice_251 : decode cX2_divideSlice 251 = .ok (.ireturn, 1) := by decide +kernel
theorem dX2_divideSlice_252 : decode cX2_divideSlice 252 = .ok (.iload 15, 2) := by decide +kernel
theorem dX2_divideSlice_254 : decode cX2_divideSlice 254 = .ok (.iload 4, 2) := by decide +kernel
theorem dX2_divideSlice_256 : decode cX2_divideSlice 256 = .ok (.isub, 1) := by decide +kernel
theorem dX2_divideSlice_257 : decode cX2_divideSlice 257 = .ok (.istore 17, 2) := by decide +kernel
theorem dX2_divideSlice_259 : decode cX2_divideSlice 259 = .ok (.aload_n 3, 1) := by decide +kernel
theorem dX2_divideSlice_260 : decode cX2_divideSlice 260 = .ok (.iload 17, 2) := by decide +kernel
theorem dX2_divideSlice_262 : decode cX2_divideSlice 262 = .ok (.dup2, 1) := by decide +kernel
theorem dX2_divideSlice_263 : decode cX2_divideSlice 263 = .ok (.iaload, 1) := by decide +kernel
theorem dX2_divideSlice_264 : decode cX2_divideSlice 264 = .ok (.iload 9, 2) := by decide +kernel
theorem dX2_divideSlice_266 : decode cX2_divideSlice 266 = .ok (.iload 16, 2) := by decide +kernel
theorem dX2_divideSlice_268 : decode cX2_divideSlice 268 = .ok (.imul, 1) := by decide +kernel
theorem dX2_divideSlice_269 : decode cX2_divideSlice 269 = .ok (.iadd, 1) := by decide +kernel
theorem dX2_divideSlice_270 : decode cX2_divideSlice 270 = .ok (.iastore, 1) := by decide +kernel
theorem dX2_divideSlice_271 : decode cX2_divideSlice 271 = .ok (.iload 7, 2) := by decide +kernel
theorem dX2_divideSlice_273 : decode cX2_divideSlice 273 = .ok (.ifCond .eq 18, 3) := by decide +kernel
theorem dX2_divideSlice_276 : decode cX2_divideSlice 276 = .ok (.aload_n 3, 1) := by decide +kernel
theorem dX2_divideSlice_277 : decode cX2_divideSlice 277 = .ok (.iload 17, 2) := by decide +kernel
theorem dX2_divideSlice_279 : decode cX2_divideSlice 279 = .ok (.iload 5, 2) := by decide +kernel
theorem dX2_divideSlice_281 : decode cX2_divideSlice 281 = .ok (.iadd, 1) := by decide +kernel
theorem dX2_divideSlice_282 : decode cX2_divideSlice 282 = .ok (.dup2, 1) := by decide +kernel
theorem dX2_divideSlice_283 : decode cX2_divideSlice 283 = .ok (.iaload, 1) := by decide +kernel
theorem dX2_divideSlice_284 : decode cX2_divideSlice 284 = .ok (.iload 7, 2) := by decide +kernel
theorem dX2_divideSlice_286 : decode cX2_divideSlice 286 = .ok (.iload 16, 2) := by decide +kernel
theorem dX2_divideSlice_288 : decode cX2_divideSlice 288 = .ok (.imul, 1) := by decide +kernel
theorem dX2_divideSlice_289 : decode cX2_divideSlice 289 = .ok (.iadd, 1) := by decide +kernel
theorem dX2_divideSlice_290 : decode cX2_divideSlice 290 = .ok (.iastore, 1) := by decide +kernel
theorem dX2_divideSlice_291 : decode cX2_divideSlice 291 = .ok (.iload 8, 2) := by decide +kernel
theorem dX2_divideSlice_293 : decode cX2_divideSlice 293 = .ok (.ifCond .eq 18, 3) := by decide +kernel
theorem dX2_divideSlice_296 : decode cX2_divideSlice 296 = .ok (.aload_n 3, 1) := by decide +kernel
theorem dX2_divideSlice_297 : decode cX2_divideSlice 297 = .ok (.iload 17, 2) := by decide +kernel
theorem dX2_divideSlice_299 : decode cX2_divideSlice 299 = .ok (.iload 6, 2) := by decide +kernel
theorem dX2_divideSlice_301 : decode cX2_divideSlice 301 = .ok (.iadd, 1) := by decide +kernel
theorem dX2_divideSlice_302 : decode cX2_divideSlice 302 = .ok (.dup2, 1) := by decide +kernel
theorem dX2_divideSlice_303 : decode cX2_divideSlice 303 = .ok (.iaload, 1) := by decide +kernel
theorem dX2_divideSlice_304 : decode cX2_divideSlice 304 = .ok (.iload 8, 2) := by decide +kernel
theorem dX2_divideSlice_306 : decode cX2_divideSlice 306 = .ok (.iload 16, 2) := by decide +kernel
theorem dX2_divideSlice_308 : decode cX2_divideSlice 308 = .ok (.imul, 1) := by decide +kernel
theorem dX2_divideSlice_309 : decode cX2_divideSlice 309 = .ok (.iadd, 1) := by decide +kernel
theorem dX2_divideSlice_310 : decode cX2_divideSlice 310 = .ok (.iastore, 1) := by decide +kernel
theorem dX2_divideSlice_311 : decode cX2_divideSlice 311 = .ok (.iinc 14 1, 3) := by decide +kernel
theorem dX2_divideSlice_314 : decode cX2_divideSlice 314 = .ok (.goto (-138), 3) := by decide +kernel
theorem dX2_divideSlice_317 : decode cX2_divideSlice 317 = .ok (.iinc 12 1, 3) := by decide +kernel
theorem dX2_divideSlice_320 : decode cX2_divideSlice 320 = .ok (.goto (-179), 3) := by decide +kernel
theorem dX2_divideSlice_323 : decode cX2_divideSlice 323 = .ok (.iconst 1, 1) := by decide +kernel
theorem dX2_divideSlice_324 : decode cX2_divideSlice 324 = .ok (.ireturn, 1) := by decide +kernel
theorem dX2_isSliceZero_0 : decode cX2_isSliceZero 0 = .ok (.aload_n 0, 1) := by decide +kernel
theorem dX2_isSliceZero_1 : decode cX2_isSliceZero 1 = .ok (.getfield 48, 3) := by decide +kernel
theorem dX2_isSliceZero_4 : decode cX2_isSliceZero 4 = .ok (.getfield 195, 3) := by decide +kernel
theorem dX2_isSliceZero_7 : decode cX2_isSliceZero 7 = .ok (.aload_n 1, 1) := by decide +kernel
theorem dX2_isSliceZero_8 : decode cX2_isSliceZero 8 = .ok (.getfield 165, 3) := by decide +kernel
theorem dX2_isSliceZero_11 : decode cX2_isSliceZero 11 = .ok (.iaload, 1) := by decide +kernel
theorem dX2_isSliceZero_12 : decode cX2_isSliceZero 12 = .ok (.istore_n 2, 1) := by decide +kernel
theorem dX2_isSliceZero_13 : decode cX2_isSliceZero 13 = .ok (.aload_n 0, 1) := by decide +kernel
theorem dX2_isSliceZero_14 : decode cX2_isSliceZero 14 = .ok (.getfield 48, 3) := by decide +kernel
theorem dX2_isSliceZero_17 : decode cX2_isSliceZero 17 = .ok (.getfield 195, 3) := by decide +kernel
theorem dX2_isSliceZero_20 : decode cX2_isSliceZero 20 = .ok (.aload_n 1, 1) := by decide +kernel
theorem dX2_isSliceZero_21 : decode cX2_isSliceZero 21 = .ok (.getfield 171, 3) := by decide +kernel
theorem dX2_isSliceZero_24 : decode cX2_isSliceZero 24 = .ok (.iaload, 1) := by decide +kernel
theorem dX2_isSliceZero_25 : decode cX2_isSliceZero 25 = .ok (.istore_n 3, 1) := by decide +kernel
theorem dX2_isSliceZero_26 : decode cX2_isSliceZero 26 = .ok (.iconst 0, 1) := by decide +kernel
theorem dX2_isSliceZero_27 : decode cX2_isSliceZero 27 = .ok (.istore 4, 2) := by decide +kernel
theorem dX2_isSliceZero_29 : decode cX2_isSliceZero 29 = .ok (.iload 4, 2) := by decide +kernel
theorem dX2_isSliceZero_31 : decode cX2_isSliceZero 31 = .ok (.aload_n 0, 1) := by decide +kernel
theorem dX2_isSliceZero_32 : decode cX2_isSliceZero 32 = .ok (.getfield 51, 3) := by decide +kernel
theorem dX2_isSliceZero_35 : decode cX2_isSliceZero 35 = .ok (.aload_n 1, 1) := by decide +kernel
theorem dX2_isSliceZero_36 : decode cX2_isSliceZero 36 = .ok (.getfield 165, 3) := by decide +kernel
theorem dX2_isSliceZero_39 : decode cX2_isSliceZero 39 = .ok (.iaload, 1) := by decide +kernel
theorem dX2_isSliceZero_40 : decode cX2_isSliceZero 40 = .ok (.if_icmp .gt 73, 3) := by decide +kernel
theorem dX2_isSliceZero_43 : decode cX2_isSliceZero 43 = .ok (.aload_n 0, 1) := by decide +kernel
theorem dX2_isSliceZero_44 : decode cX2_isSliceZero 44 = .ok (.getfield 51, 3) := by decide +kernel
theorem dX2_isSliceZero_47 : decode cX2_isSliceZero 47 = .ok (.aload_n 1, 1) := by decide +kernel
theorem dX2_isSliceZero_48 : decode cX2_isSliceZero 48 = .ok (.getfield 171, 3) := by decide +kernel
theorem dX2_isSliceZero_51 : decode cX2_isSliceZero 51 = .ok (.iaload, 1) := by decide +kernel
theorem dX2_isSliceZero_52 : decode cX2_isSliceZero 52 = .ok (.aload_n 0, 1) := by decide +kernel
theorem dX2_isSliceZero_53 : decode cX2_isSliceZero 53 = .ok (.getfield 54, 3) := by decide +kernel
theorem dX2_isSliceZero_56 : decode cX2_isSliceZero 56 = .ok (.iload 4, 2) := by decide +kernel
theorem dX2_isSliceZero_58 : decode cX2_isSliceZero 58 = .ok (.isub, 1) := by decide +kernel
theorem dX2_isSliceZero_59 : decode cX2_isSliceZero 59 = .ok (.invokestatic 201, 3) := by decide +kernel
theorem dX2_isSliceZero_62 : decode cX2_isSliceZero 62 = .ok (.istore 5, 2) := by decide +kernel
theorem dX2_isSliceZero_64 : decode cX2_isSliceZero 64 = .ok (.iconst 0, 1) := by decide +kernel
theorem dX2_isSliceZero_65 : decode cX2_isSliceZero 65 = .ok (.istore 6, 2) := by decide +kernel
theorem dX2_isSliceZero_67 : decode cX2_isSliceZero 67 = .ok (.iload 6, 2) := by decide +kernel
theorem dX2_isSliceZero_69 : decode cX2_isSliceZero 69 = .ok (.iload 5, 2) := by decide +kernel
theorem dX2_isSliceZero_71 : decode cX2_isSliceZero 71 = .ok (.if_icmp .gt 36, 3) := by decide +kernel
theorem dX2_isSliceZero_74 : decode cX2_isSliceZero 74 = .ok (.aload_n 0, 1) := by decide +kernel
theorem dX2_isSliceZero_75 : decode cX2_isSliceZero 75 = .ok (.getfield 48, 3) := by decide +kernel
theorem dX2_isSliceZero_78 : decode cX2_isSliceZero 78 = .ok (.getfield 122, 3) := by decide +kernel
theorem dX2_isSliceZero_81 : decode cX2_isSliceZero 81 = .ok (.iload 4, 2) := by decide +kernel
theorem dX2_isSliceZero_83 : decode cX2_isSliceZero 83 = .ok (.iload_n 2, 1) := by decide +kernel
theorem dX2_isSliceZero_84 : decode cX2_isSliceZero 84 = .ok (.imul, 1) := by decide +kernel
theorem dX2_isSliceZero_85 : decode cX2_isSliceZero 85 = .ok (.iload 6, 2) := by decide +kernel
theorem dX2_isSliceZero_87 : decode cX2_isSliceZero 87 = .ok (.iload_n 3, 1) := by decide +kernel
theorem dX2_isSliceZero_88 : decode cX2_isSliceZero 88 = .ok (.imul, 1) := by decide +kernel
theorem dX2_isSliceZero_89 : decode cX2_isSliceZero 89 = .ok (.iadd, 1) := by decide +kernel
theorem dX2_isSliceZero_90 : decode cX2_isSliceZero 90 = .ok (.iaload, 1) := by decide +kernel
theorem dX2_isSliceZero_91 : decode cX2_isSliceZero 91 = .ok (.aload_n 0, 1) := by decide +kernel
theorem dX2_isSliceZero_92 : decode cX2_isSliceZero 92 = .ok (.getfield 69, 3) := by decide +kernel
theorem dX2_isSliceZero_95 : decode cX2_isSliceZero 95 = .ok (.irem, 1) := by decide +kernel
theorem dX2_isSliceZero_96 : decode cX2_isSliceZero 96 = .ok (.ifCond .eq 5, 3) := by decide +kernel
theorem dX2_isSliceZero_99 : decode cX2_isSliceZero 99 = .ok (.iconst 0, 1) := by decide +kernel
theorem dX2_isSliceZero_100 : decode cX2_isSliceZero 100 = .ok (.ireturn, 1) := by decide +kernel
theorem dX2_isSliceZero_101 : decode cX2_isSliceZero 101 = .ok (.iinc 6 1, 3) := by decide +kernel
theorem dX2_isSliceZero_104 : decode cX2_isSliceZero 104 = .ok (.goto (-37), 3) := by decide +kernel
theorem dX2_isSliceZero_107 : decode cX2_isSliceZero 107 = .ok (.iinc 4 1, 3) := by decide +kernel
theorem dX2_isSliceZero_110 : decode cX2_isSliceZero 110 = .ok (.goto (-81), 3) := by decide +kernel
theorem dX2_isSliceZero_113 : decode cX2_isSliceZero 113 = .ok (.iconst 1, 1) := by decide +kernel
theorem dX2_isSliceZero_114 : decode cX2_isSliceZero 114 = .ok (.ireturn, 1) := by decide +kernel
theorem dX2_takeQuotient_0 : decode cX2_takeQuotient 0 = .ok (.aload_n 0, 1) := by decide +kernel
theorem dX2_takeQuotient_1 : decode cX2_takeQuotient 1 = .ok (.getfield 48, 3) := by decide +kernel
theorem dX2_takeQuotient_4 : decode cX2_takeQuotient 4 = .ok (.getfield 195, 3) := by decide +kernel
theorem dX2_takeQuotient_7 : decode cX2_takeQuotient 7 = .ok (.aload_n 1, 1) := by decide +kernel
theorem dX2_takeQuotient_8 : decode cX2_takeQuotient 8 = .ok (.getfield 156, 3) := by decide +kernel
theorem dX2_takeQuotient_11 : decode cX2_takeQuotient 11 = .ok (.iaload, 1) := by decide +kernel
theorem dX2_takeQuotient_12 : decode cX2_takeQuotient 12 = .ok (.istore_n 2, 1) := by decide +kernel
theorem dX2_takeQuotient_13 : decode cX2_takeQuotient 13 = .ok (.aload_n 0, 1) := by decide +kernel
theorem dX2_takeQuotient_14 : decode cX2_takeQuotient 14 = .ok (.getfield 48, 3) := by decide +kernel
theorem dX2_takeQuotient_17 : decode cX2_takeQuotient 17 = .ok (.getfield 195, 3) := by decide +kernel
theorem dX2_takeQuotient_20 : decode cX2_takeQuotient 20 = .ok (.aload_n 1, 1) := by decide +kernel
theorem dX2_takeQuotient_21 : decode cX2_takeQuotient 21 = .ok (.getfield 165, 3) := by decide +kernel
theorem dX2_takeQuotient_24 : decode cX2_takeQuotient 24 = .ok (.iaload, 1) := by decide +kernel
theorem dX2_takeQuotient_25 : decode cX2_takeQuotient 25 = .ok (.istore_n 3, 1) := by decide +kernel
theorem dX2_takeQuotient_26 : decode cX2_takeQuotient 26 = .ok (.aload_n 0, 1) := by decide +kernel
theorem dX2_takeQuotient_27 : decode cX2_takeQuotient 27 = .ok (.getfield 48, 3) := by decide +kernel
theorem dX2_takeQuotient_30 : decode cX2_takeQuotient 30 = .ok (.getfield 195, 3) := by decide +kernel
theorem dX2_takeQuotient_33 : decode cX2_takeQuotient 33 = .ok (.aload_n 1, 1) := by decide +kernel
theorem dX2_takeQuotient_34 : decode cX2_takeQuotient 34 = .ok (.getfield 171, 3) := by decide +kernel
theorem dX2_takeQuotient_37 : decode cX2_takeQuotient 37 = .ok (.iaload, 1) := by decide +kernel
theorem dX2_takeQuotient_38 : decode cX2_takeQuotient 38 = .ok (.istore 4, 2) := by decide +kernel
theorem dX2_takeQuotient_40 : decode cX2_takeQuotient 40 = .ok (.iconst 0, 1) := by decide +kernel
theorem dX2_takeQuotient_41 : decode cX2_takeQuotient 41 = .ok (.istore 5, 2) := by decide +kernel
theorem dX2_takeQuotient_43 : decode cX2_takeQuotient 43 = .ok (.iload 5, 2) := by decide +kernel
theorem dX2_takeQuotient_45 : decode cX2_takeQuotient 45 = .ok (.aload_n 0, 1) := by decide +kernel
theorem dX2_takeQuotient_46 : decode cX2_takeQuotient 46 = .ok (.getfield 51, 3) := by decide +kernel
theorem dX2_takeQuotient_49 : decode cX2_takeQuotient 49 = .ok (.aload_n 1, 1) := by decide +kernel
theorem dX2_takeQuotient_50 : decode cX2_takeQuotient 50 = .ok (.getfield 156, 3) := by decide +kernel
theorem dX2_takeQuotient_53 : decode cX2_takeQuotient 53 = .ok (.iaload, 1) := by decide +kernel
theorem dX2_takeQuotient_54 : decode cX2_takeQuotient 54 = .ok (.if_icmp .gt 151, 3) := by decide +kernel
theorem dX2_takeQuotient_57 : decode cX2_takeQuotient 57 = .ok (.iload 5, 2) := by decide +kernel
theorem dX2_takeQuotient_59 : decode cX2_takeQuotient 59 = .ok (.aload_n 0, 1) := by decide +kernel
theorem dX2_takeQuotient_60 : decode cX2_takeQuotient 60 = .ok (.getfield 51, 3) := by decide +kernel
theorem dX2_takeQuotient_63 : decode cX2_takeQuotient 63 = .ok (.aload_n 1, 1) := by decide +kernel
theorem dX2_takeQuotient_64 : decode cX2_takeQuotient 64 = .ok (.getfield 156, 3) := by decide +kernel
theorem dX2_takeQuotient_67 : decode cX2_takeQuotient 67 = .ok (.iaload, 1) := by decide +kernel
theorem dX2_takeQuotient_68 : decode cX2_takeQuotient 68 = .ok (.if_icmp .ne 7, 3) := by decide +kernel
theorem dX2_takeQuotient_71 : decode cX2_takeQuotient 71 = .ok (.iconst 1, 1) := by decide +kernel
theorem dX2_takeQuotient_72 : decode cX2_takeQuotient 72 = .ok (.goto 4, 3) := by decide +kernel
theorem dX2_takeQuotient_75 : decode cX2_takeQuotient 75 = .ok (.iconst 0, 1) := by decide +kernel
theorem dX2_takeQuotient_76 : decode cX2_takeQuotient 76 = .ok (.istore 6, 2) := by decide +kernel
theorem dX2_takeQuotient_78 : decode cX2_takeQuotient 78 = .ok (.iconst 0, 1) := by decide +kernel
theorem dX2_takeQuotient_79 : decode cX2_takeQuotient 79 = .ok (.istore 7, 2) := by decide +kernel
theorem dX2_takeQuotient_81 : decode cX2_takeQuotient 81 = .ok (.iload 7, 2) := by decide +kernel
theorem dX2_takeQuotient_83 : decode cX2_takeQuotient 83 = .ok (.aload_n 0, 1) := by decide +kernel
theorem dX2_takeQuotient_84 : decode cX2_takeQuotient 84 = .ok (.getfield 51, 3) := by decide +kernel
theorem dX2_takeQuotient_87 : decode cX2_takeQuotient 87 = .ok (.aload_n 1, 1) := by decide +kernel
theorem dX2_takeQuotient_88 : decode cX2_takeQuotient 88 = .ok (.getfield 165, 3) := by decide +kernel
theorem dX2_takeQuotient_91 : decode cX2_takeQuotient 91 = .ok (.iaload, 1) := by decide +kernel
theorem dX2_takeQuotient_92 : decode cX2_takeQuotient 92 = .ok (.aload_n 0, 1) := by decide +kernel
theorem dX2_takeQuotient_93 : decode cX2_takeQuotient 93 = .ok (.getfield 54, 3) := by decide +kernel
theorem dX2_takeQuotient_96 : decode cX2_takeQuotient 96 = .ok (.iload 5, 2) := by decide +kernel
theorem dX2_takeQuotient_98 : decode cX2_takeQuotient 98 = .ok (.isub, 1) := by decide +kernel
theorem dX2_takeQuotient_99 : decode cX2_takeQuotient 99 = .ok (.invokestatic 201, 3) := by decide +kernel
theorem dX2_takeQuotient_102 : decode cX2_takeQuotient 102 = .ok (.if_icmp .gt 97, 3) := by decide +kernel
theorem dX2_takeQuotient_105 : decode cX2_takeQuotient 105 = .ok (.aload_n 0, 1) := by decide +kernel
theorem dX2_takeQuotient_106 : decode cX2_takeQuotient 106 = .ok (.getfield 51, 3) := by decide +kernel
theorem dX2_takeQuotient_109 : decode cX2_takeQuotient 109 = .ok (.aload_n 1, 1) := by decide +kernel
theorem dX2_takeQuotient_110 : decode cX2_takeQuotient 110 = .ok (.getfield 171, 3) := by decide +kernel
theorem dX2_takeQuotient_113 : decode cX2_takeQuotient 113 = .ok (.iaload, 1) := by decide +kernel
theorem dX2_takeQuotient_114 : decode cX2_takeQuotient 114 = .ok (.aload_n 0, 1) := by decide +kernel
theorem dX2_takeQuotient_115 : decode cX2_takeQuotient 115 = .ok (.getfield 54, 3) := by decide +kernel
theorem dX2_takeQuotient_118 : decode cX2_takeQuotient 118 = .ok (.iload 5, 2) := by decide +kernel
theorem dX2_takeQuotient_120 : decode cX2_takeQuotient 120 = .ok (.isub, 1) := by decide +kernel
theorem dX2_takeQuotient_121 : decode cX2_takeQuotient 121 = .ok (.iload 7, 2) := by decide +kernel
theorem dX2_takeQuotient_123 : decode cX2_takeQuotient 123 = .ok (.isub, 1) := by decide +kernel
theorem dX2_takeQuotient_124 : decode cX2_takeQuotient 124 = .ok (.invokestatic 201, 3) := by decide +kernel
theorem dX2_takeQuotient_127 : decode cX2_takeQuotient 127 = .ok (.istore 8, 2) := by decide +kernel
theorem dX2_takeQuotient_129 : decode cX2_takeQuotient 129 = .ok (.iconst 0, 1) := by decide +kernel
theorem dX2_takeQuotient_130 : decode cX2_takeQuotient 130 = .ok (.istore 9, 2) := by decide +kernel
theorem dX2_takeQuotient_132 : decode cX2_takeQuotient 132 = .ok (.iload 9, 2) := by decide +kernel
theorem dX2_takeQuotient_134 : decode cX2_takeQuotient 134 = .ok (.iload 8, 2) := by decide +kernel
theorem dX2_takeQuotient_136 : decode cX2_takeQuotient 136 = .ok (.if_icmp .gt 57, 3) := by decide +kernel
theorem dX2_takeQuotient_139 : decode cX2_takeQuotient 139 = .ok (.iload 5, 2) := by decide +kernel
theorem dX2_takeQuotient_141 : decode cX2_takeQuotient 141 = .ok (.iload_n 2, 1) := by decide +kernel
theorem dX2_takeQuotient_142 : decode cX2_takeQuotient 142 = .ok (.imul, 1) := by decide +kernel
theorem dX2_takeQuotient_143 : decode cX2_takeQuotient 143 = .ok (.iload 7, 2) := by decide +kernel
theorem dX2_takeQuotient_145 : decode cX2_takeQuotient 145 = .ok (.iload_n 3, 1) := by decide +kernel
theorem dX2_takeQuotient_146 : decode cX2_takeQuotient 146 = .ok (.imul, 1) := by decide +kernel
theorem dX2_takeQuotient_147 : decode cX2_takeQuotient 147 = .ok (.iadd, 1) := by decide +kernel
theorem dX2_takeQuotient_148 : decode cX2_takeQuotient 148 = .ok (.iload 9, 2) := by decide +kernel
theorem dX2_takeQuotient_150 : decode cX2_takeQuotient 150 = .ok (.iload 4, 2) := by decide +kernel
theorem dX2_takeQuotient_152 : decode cX2_takeQuotient 152 = .ok (.imul, 1) := by decide +kernel
theorem dX2_takeQuotient_153 : decode cX2_takeQuotient 153 = .ok (.iadd, 1) := by decide +kernel
theorem dX2_takeQuotient_154 : decode cX2_takeQuotient 154 = .ok (.istore 10, 2) := by decide +kernel
theorem dX2_takeQuotient_156 : decode cX2_takeQuotient 156 = .ok (.aload_n 0, 1) := by decide +kernel
theorem dX2_takeQuotient_157 : decode cX2_takeQuotient 157 = .ok (.getfield 44, 3) := by decide +kernel
theorem dX2_takeQuotient_160 : decode cX2_takeQuotient 160 = .ok (.getfield 122, 3) := by decide +kernel
theorem dX2_takeQuotient_163 : decode cX2_takeQuotient 163 = .ok (.iload 10, 2) := by decide +kernel
theorem dX2_takeQuotient_165 : decode cX2_takeQuotient 165 = .ok (.iload 6, 2) := by decide +kernel
theorem dX2_takeQuotient_167 : decode cX2_takeQuotient 167 = .ok (.ifCond .eq 7, 3) := by decide +kernel
theorem dX2_takeQuotient_170 : decode cX2_takeQuotient 170 = .ok (.iconst 0, 1) := by decide +kernel
theorem dX2_takeQuotient_171 : decode cX2_takeQuotient 171 = .ok (.goto 15, 3) := by decide +kernel
theorem dX2_takeQuotient_174 : decode cX2_takeQuotient 174 = .ok (.aload_n 0, 1) := by decide +kernel
theorem dX2_takeQuotient_175 : decode cX2_takeQuotient 175 = .ok (.getfield 48, 3) := by decide +kernel
theorem dX2_takeQuotient_178 : decode cX2_takeQuotient 178 = .ok (.getfield 122, 3) := by decide +kernel
theorem dX2_takeQuotient_181 : decode cX2_takeQuotient 181 = .ok (.iload 10, 2) := by decide +kernel
theorem dX2_takeQuotient_183 : decode cX2_takeQuotient 183 = .ok (.iload_n 2, 1) := by decide +kernel
theorem dX2_takeQuotient_184 : decode cX2_takeQuotient 184 = .ok (.iadd, 1) := by decide +kernel
theorem dX2_takeQuotient_185 : decode cX2_takeQuotient 185 = .ok (.iaload, 1) := by decide +kernel
theorem dX2_takeQuotient_186 : decode cX2_takeQuotient 186 = .ok (.iastore, 1) := by decide +kernel
theorem dX2_takeQuotient_187 : decode cX2_takeQuotient 187 = .ok (.iinc 9 1, 3) := by decide +kernel
theorem dX2_takeQuotient_190 : decode cX2_takeQuotient 190 = .ok (.goto (-58), 3) := by decide +kernel
theorem dX2_takeQuotient_193 : decode cX2_takeQuotient 193 = .ok (.iinc 7 1, 3) := by decide +kernel
theorem dX2_takeQuotient_196 : decode cX2_takeQuotient 196 = .ok (.goto (-115), 3) := by decide +kernel
theorem dX2_takeQuotient_199 : decode cX2_takeQuotient 199 = .ok (.iinc 5 1, 3) := by decide +kernel
theorem dX2_takeQuotient_202 : decode cX2_takeQuotient 202 = .ok (.goto (-159), 3) := by decide +kernel
theorem dX2_takeQuotient_205 : decode cX2_takeQuotient 205 = .ok (.return_, 1) := by decide +kernel
theorem dX7_init_0 : decode cX7_init 0 = .ok (.aload_n 0, 1) := by decide +kernel
theorem dX7_init_1 : decode cX7_init 1 = .ok (.invokespecial 5, 3) := by decide +kernel
theorem dX7_init_4 : decode cX7_init 4 = .ok (.aload_n 0, 1) := by decide +kernel
theorem dX7_init_5 : decode cX7_init 5 = .ok (.iconst 0, 1) := by decide +kernel
theorem dX7_init_6 : decode cX7_init 6 = .ok (.putfield 11, 3) := by decide +kernel
theorem dX7_init_9 : decode cX7_init 9 = .ok (.aload_n 0, 1) := by decide +kernel
theorem dX7_init_10 : decode cX7_init 10 = .ok (.bipush 23, 2) := by decide +kernel
theorem dX7_init_12 : decode cX7_init 12 = .ok (.newarray .int, 2) := by decide +kernel
theorem dX7_init_14 : decode cX7_init 14 = .ok (.putfield 15, 3) := by decide +kernel
theorem dX7_init_17 : decode cX7_init 17 = .ok (.aload_n 0, 1) := by decide +kernel
theorem dX7_init_18 : decode cX7_init 18 = .ok (.bipush 23, 2) := by decide +kernel
theorem dX7_init_20 : decode cX7_init 20 = .ok (.newarray .int, 2) := by decide +kernel
theorem dX7_init_22 : decode cX7_init 22 = .ok (.putfield 19, 3) := by decide +kernel
theorem dX7_init_25 : decode cX7_init 25 = .ok (.aload_n 0, 1) := by decide +kernel
theorem dX7_init_26 : decode cX7_init 26 = .ok (.bipush 23, 2) := by decide +kernel
theorem dX7_init_28 : decode cX7_init 28 = .ok (.newarray .int, 2) := by decide +kernel
theorem dX7_init_30 : decode cX7_init 30 = .ok (.putfield 22, 3) := by decide +kernel
theorem dX7_init_33 : decode cX7_init 33 = .ok (.aload_n 0, 1) := by decide +kernel
theorem dX7_init_34 : decode cX7_init 34 = .ok (.bipush 23, 2) := by decide +kernel
theorem dX7_init_36 : decode cX7_init 36 = .ok (.newarray .int, 2) := by decide +kernel
theorem dX7_init_38 : decode cX7_init 38 = .ok (.putfield 25, 3) := by decide +kernel
theorem dX7_init_41 : decode cX7_init 41 = .ok (.aload_n 0, 1) := by decide +kernel
theorem dX7_init_42 : decode cX7_init 42 = .ok (.bipush 23, 2) := by decide +kernel
theorem dX7_init_44 : decode cX7_init 44 = .ok (.newarray .int, 2) := by decide +kernel
theorem dX7_init_46 : decode cX7_init 46 = .ok (.putfield 28, 3) := by decide +kernel
theorem dX7_init_49 : decode cX7_init 49 = .ok (.aload_n 0, 1) := by decide +kernel
theorem dX7_init_50 : decode cX7_init 50 = .ok (.bipush 23, 2) := by decide +kernel
theorem dX7_init_52 : decode cX7_init 52 = .ok (.anewarray 31, 3) := by decide +kernel
theorem dX7_init_55 : decode cX7_init 55 = .ok (.putfield 33, 3) := by decide +kernel
theorem dX7_init_58 : decode cX7_init 58 = .ok (.aload_n 0, 1) := by decide +kernel
theorem dX7_init_59 : decode cX7_init 59 = .ok (.bipush 23, 2) := by decide +kernel
theorem dX7_init_61 : decode cX7_init 61 = .ok (.newarray .int, 2) := by decide +kernel
theorem dX7_init_63 : decode cX7_init 63 = .ok (.putfield 37, 3) := by decide +kernel
theorem dX7_init_66 : decode cX7_init 66 = .ok (.aload_n 0, 1) := by decide +kernel
theorem dX7_init_67 : decode cX7_init 67 = .ok (.bipush 23, 2) := by decide +kernel
theorem dX7_init_69 : decode cX7_init 69 = .ok (.newarray .int, 2) := by decide +kernel
theorem dX7_init_71 : decode cX7_init 71 = .ok (.putfield 40, 3) := by decide +kernel
theorem dX7_init_74 : decode cX7_init 74 = .ok (.aload_n 0, 1) := by decide +kernel
theorem dX7_init_75 : decode cX7_init 75 = .ok (.iconst 3, 1) := by decide +kernel
theorem dX7_init_76 : decode cX7_init 76 = .ok (.newarray .int, 2) := by decide +kernel
theorem dX7_init_78 : decode cX7_init 78 = .ok (.putfield 43, 3) := by decide +kernel
theorem dX7_init_81 : decode cX7_init 81 = .ok (.return_, 1) := by decide +kernel
theorem dX7_run_0 : decode cX7_run 0 = .ok (.iconst 0, 1) := by decide +kernel
theorem dX7_run_1 : decode cX7_run 1 = .ok (.istore_n 2, 1) := by decide +kernel
theorem dX7_run_2 : decode cX7_run 2 = .ok (.iload_n 2, 1) := by decide +kernel
theorem dX7_run_3 : decode cX7_run 3 = .ok (.aload_n 0, 1) := by decide +kernel
theorem dX7_run_4 : decode cX7_run 4 = .ok (.getfield 11, 3) := by decide +kernel
theorem dX7_run_7 : decode cX7_run 7 = .ok (.if_icmp .ge 158, 3) := by decide +kernel
theorem dX7_run_10 : decode cX7_run 10 = .ok (.aload_n 0, 1) := by decide +kernel
theorem dX7_run_11 : decode cX7_run 11 = .ok (.getfield 28, 3) := by decide +kernel
theorem dX7_run_14 : decode cX7_run 14 = .ok (.iload_n 2, 1) := by decide +kernel
theorem dX7_run_15 : decode cX7_run 15 = .ok (.aload_n 0, 1) := by decide +kernel
theorem dX7_run_16 : decode cX7_run 16 = .ok (.iload_n 2, 1) := by decide +kernel
theorem dX7_run_17 : decode cX7_run 17 = .ok (.invokevirtual 46, 3) := by decide +kernel
theorem dX7_run_20 : decode cX7_run 20 = .ok (.iastore, 1) := by decide +kernel
theorem dX7_run_21 : decode cX7_run 21 = .ok (.aload_n 0, 1) := by decide +kernel
theorem dX7_run_22 : decode cX7_run 22 = .ok (.aload_n 0, 1) := by decide +kernel
theorem dX7_run_23 : decode cX7_run 23 = .ok (.getfield 22, 3) := by decide +kernel
theorem dX7_run_26 : decode cX7_run 26 = .ok (.iload_n 2, 1) := by decide +kernel
theorem dX7_run_27 : decode cX7_run 27 = .ok (.iaload, 1) := by decide +kernel
theorem dX7_run_28 : decode cX7_run 28 = .ok (.aload_n 1, 1) := by decide +kernel
theorem dX7_run_29 : decode cX7_run 29 = .ok (.getfield 50, 3) := by decide +kernel
theorem dX7_run_32 : decode cX7_run 32 = .ok (.invokevirtual 55, 3) := by decide +kernel
theorem dX7_run_35 : decode cX7_run 35 = .ok (.astore_n 3, 1) := by decide +kernel
theorem dX7_run_36 : decode cX7_run 36 = .ok (.aload_n 0, 1) := by decide +kernel
theorem dX7_run_37 : decode cX7_run 37 = .ok (.getfield 19, 3) := by decide +kernel
theorem dX7_run_40 : decode cX7_run 40 = .ok (.iload_n 2, 1) := by decide +kernel
theorem dX7_run_41 : decode cX7_run 41 = .ok (.iaload, 1) := by decide +kernel
theorem dX7_run_42 : decode cX7_run 42 = .ok (.bipush 94, 2) := by decide +kernel
theorem dX7_run_44 : decode cX7_run 44 = .ok (.if_icmp .ne 18, 3) := by decide +kernel
theorem dX7_run_47 : decode cX7_run 47 = .ok (.aload_n 1, 1) := by decide +kernel
theorem dX7_run_48 : decode cX7_run 48 = .ok (.aload_n 3, 1) := by decide +kernel
theorem dX7_run_49 : decode cX7_run 49 = .ok (.aload_n 0, 1) := by decide +kernel
theorem dX7_run_50 : decode cX7_run 50 = .ok (.getfield 25, 3) := by decide +kernel
theorem dX7_run_53 : decode cX7_run 53 = .ok (.iload_n 2, 1) := by decide +kernel
theorem dX7_run_54 : decode cX7_run 54 = .ok (.iaload, 1) := by decide +kernel
theorem dX7_run_55 : decode cX7_run 55 = .ok (.invokevirtual 59, 3) := by decide +kernel
theorem dX7_run_58 : decode cX7_run 58 = .ok (.astore_n 3, 1) := by decide +kernel
theorem dX7_run_59 : decode cX7_run 59 = .ok (.goto 87, 3) := by decide +kernel
theorem dX7_run_62 : decode cX7_run 62 = .ok (.aload_n 0, 1) := by decide +kernel
theorem dX7_run_63 : decode cX7_run 63 = .ok (.getfield 19, 3) := by decide +kernel
theorem dX7_run_66 : decode cX7_run 66 = .ok (.iload_n 2, 1) := by decide +kernel
theorem dX7_run_67 : decode cX7_run 67 = .ok (.iaload, 1) := by decide +kernel
theorem dX7_run_68 : decode cX7_run 68 = .ok (.bipush 42, 2) := by decide +kernel
theorem dX7_run_70 : decode cX7_run 70 = .ok (.if_icmp .ne 26, 3) := by decide +kernel
theorem dX7_run_73 : decode cX7_run 73 = .ok (.aload_n 1, 1) := by decide +kernel
theorem dX7_run_74 : decode cX7_run 74 = .ok (.aload_n 3, 1) := by decide +kernel
theorem dX7_run_75 : decode cX7_run 75 = .ok (.aload_n 0, 1) := by decide +kernel
theorem dX7_run_76 : decode cX7_run 76 = .ok (.aload_n 0, 1) := by decide +kernel
theorem dX7_run_77 : decode cX7_run 77 = .ok (.getfield 25, 3) := by decide +kernel
theorem dX7_run_80 : decode cX7_run 80 = .ok (.iload_n 2, 1) := by decide +kernel
theorem dX7_run_81 : decode cX7_run 81 = .ok (.iaload, 1) := by decide +kernel
theorem dX7_run_82 : decode cX7_run 82 = .ok (.aload_n 1, 1) := by decide +kernel
theorem dX7_run_83 : decode cX7_run 83 = .ok (.getfield 50, 3) := by decide +kernel
theorem dX7_run_86 : decode cX7_run 86 = .ok (.invokevirtual 55, 3) := by decide +kernel
theorem dX7_run_89 : decode cX7_run 89 = .ok (.invokevirtual 63, 3) := by decide +kernel
theorem dX7_run_92 : decode cX7_run 92 = .ok (.astore_n 3, 1) := by decide +kernel
theorem dX7_run_93 : decode cX7_run 93 = .ok (.goto 53, 3) := by decide +kernel
theorem dX7_run_96 : decode cX7_run 96 = .ok (.aload_n 0, 1) := by decide +kernel
theorem dX7_run_97 : decode cX7_run 97 = .ok (.getfield 19, 3) := by decide +kernel
theorem dX7_run_100 : decode cX7_run 100 = .ok (.iload_n 2, 1) := by decide +kernel
theorem dX7_run_101 : decode cX7_run 101 = .ok (.iaload, 1) := by decide +kernel
theorem dX7_run_102 : decode cX7_run 102 = .ok (.ifCond .eq 44, 3) := by decide +kernel
theorem dX7_run_105 : decode cX7_run 105 = .ok (.aload_n 1, 1) := by decide +kernel
theorem dX7_run_106 : decode cX7_run 106 = .ok (.aload_n 3, 1) := by decide +kernel
theorem dX7_run_107 : decode cX7_run 107 = .ok (.aload_n 0, 1) := by decide +kernel
theorem dX7_run_108 : decode cX7_run 108 = .ok (.aload_n 0, 1) := by decide +kernel
theorem dX7_run_109 : decode cX7_run 109 = .ok (.getfield 25, 3) := by decide +kernel
theorem dX7_run_112 : decode cX7_run 112 = .ok (.iload_n 2, 1) := by decide +kernel
theorem dX7_run_113 : decode cX7_run 113 = .ok (.iaload, 1) := by decide +kernel
theorem dX7_run_114 : decode cX7_run 114 = .ok (.aload_n 1, 1) := by decide +kernel
theorem dX7_run_115 : decode cX7_run 115 = .ok (.getfield 50, 3) := by decide +kernel
theorem dX7_run_118 : decode cX7_run 118 = .ok (.invokevirtual 55, 3) := by decide +kernel
theorem dX7_run_121 : decode cX7_run 121 = .ok (.aload_n 0, 1) := by decide +kernel
theorem dX7_run_122 : decode cX7_run 122 = .ok (.getfield 19, 3) := by decide +kernel
theorem dX7_run_125 : decode cX7_run 125 = .ok (.iload_n 2, 1) := by decide +kernel
theorem dX7_run_126 : decode cX7_run 126 = .ok (.iaload, 1) := by decide +kernel
theorem dX7_run_127 : decode cX7_run 127 = .ok (.bipush 43, 2) := by decide +kernel
theorem dX7_run_129 : decode cX7_run 129 = .ok (.if_icmp .ne 7, 3) := by decide +kernel
theorem dX7_run_132 : decode cX7_run 132 = .ok (.iconst 1, 1) := by decide +kernel
theorem dX7_run_133 : decode cX7_run 133 = .ok (.goto 9, 3) := by decide +kernel
theorem dX7_run_136 : decode cX7_run 136 = .ok (.aload_n 1, 1) := by decide +kernel
theorem dX7_run_137 : decode cX7_run 137 = .ok (.getfield 50, 3) := by decide +kernel
theorem dX7_run_140 : decode cX7_run 140 = .ok (.iconst 1, 1) := by decide +kernel
theorem dX7_run_141 : decode cX7_run 141 = .ok (.isub, 1) := by decide +kernel
theorem dX7_run_142 : decode cX7_run 142 = .ok (.invokevirtual 67, 3) := by decide +kernel
theorem dX7_run_145 : decode cX7_run 145 = .ok (.astore_n 3, 1) := by decide +kernel
theorem dX7_run_146 : decode cX7_run 146 = .ok (.aload_n 3, 1) := by decide +kernel
theorem dX7_run_147 : decode cX7_run 147 = .ok (.ifnonnull 5, 3) := by decide +kernel
theorem dX7_run_150 : decode cX7_run 150 = .ok (.iconst 0, 1) := by decide +kernel
theorem dX7_run_151 : decode cX7_run 151 = .ok (.ireturn, 1) := by decide +kernel
theorem dX7_run_152 : decode cX7_run 152 = .ok (.aload_n 0, 1) := by decide +kernel
theorem dX7_run_153 : decode cX7_run 153 = .ok (.getfield 33, 3) := by decide +kernel
theorem dX7_run_156 : decode cX7_run 156 = .ok (.iload_n 2, 1) := by decide +kernel
theorem dX7_run_157 : decode cX7_run 157 = .ok (.aload_n 3, 1) := by decide +kernel
theorem dX7_run_158 : decode cX7_run 158 = .ok (.aastore, 1) := by decide +kernel
theorem dX7_run_159 : decode cX7_run 159 = .ok (.iinc 2 1, 3) := by decide +kernel
theorem dX7_run_162 : decode cX7_run 162 = .ok (.goto (-160), 3) := by decide +kernel
theorem dX7_run_165 : decode cX7_run 165 = .ok (.iconst 1, 1) := by decide +kernel
theorem dX7_run_166 : decode cX7_run 166 = .ok (.ireturn, 1) := by decide +kernel
theorem dX7_boundOf_0 : decode cX7_boundOf 0 = .ok (.aload_n 0, 1) := by decide +kernel
theorem dX7_boundOf_1 : decode cX7_boundOf 1 = .ok (.aload_n 0, 1) := by decide +kernel
theorem dX7_boundOf_2 : decode cX7_boundOf 2 = .ok (.getfield 22, 3) := by decide +kernel
theorem dX7_boundOf_5 : decode cX7_boundOf 5 = .ok (.iload_n 1, 1) := by decide +kernel
theorem dX7_boundOf_6 : decode cX7_boundOf 6 = .ok (.iaload, 1) := by decide +kernel
theorem dX7_boundOf_7 : decode cX7_boundOf 7 = .ok (.invokevirtual 71, 3) := by decide +kernel
theorem dX7_boundOf_10 : decode cX7_boundOf 10 = .ok (.istore_n 2, 1) := by decide +kernel
theorem dX7_boundOf_11 : decode cX7_boundOf 11 = .ok (.aload_n 0, 1) := by decide +kernel
theorem dX7_boundOf_12 : decode cX7_boundOf 12 = .ok (.aload_n 0, 1) := by decide +kernel
theorem dX7_boundOf_13 : decode cX7_boundOf 13 = .ok (.getfield 25, 3) := by decide +kernel
theorem dX7_boundOf_16 : decode cX7_boundOf 16 = .ok (.iload_n 1, 1) := by decide +kernel
theorem dX7_boundOf_17 : decode cX7_boundOf 17 = .ok (.iaload, 1) := by decide +kernel
theorem dX7_boundOf_18 : decode cX7_boundOf 18 = .ok (.invokevirtual 71, 3) := by decide +kernel
theorem dX7_boundOf_21 : decode cX7_boundOf 21 = .ok (.istore_n 3, 1) := by decide +kernel
theorem dX7_boundOf_22 : decode cX7_boundOf 22 = .ok (.aload_n 0, 1) := by decide +kernel
theorem dX7_boundOf_23 : decode cX7_boundOf 23 = .ok (.getfield 19, 3) := by decide +kernel
theorem dX7_boundOf_26 : decode cX7_boundOf 26 = .ok (.iload_n 1, 1) := by decide +kernel
theorem dX7_boundOf_27 : decode cX7_boundOf 27 = .ok (.iaload, 1) := by decide +kernel
theorem dX7_boundOf_28 : decode cX7_boundOf 28 = .ok (.lookupswitch 73 #[(42, 50), (43, 44), (45, 44), (94, 59)], 44) := by decide +kernel
theorem dX7_boundOf_72 : decode cX7_boundOf 72 = .ok (.iload_n 2, 1) := by decide +kernel
theorem dX7_boundOf_73 : decode cX7_boundOf 73 = .ok (.iload_n 3, 1) := by decide +kernel
theorem dX7_boundOf_74 : decode cX7_boundOf 74 = .ok (.invokestatic 74, 3) := by decide +kernel
theorem dX7_boundOf_77 : decode cX7_boundOf 77 = .ok (.ireturn, 1) := by decide +kernel
theorem dX7_boundOf_78 : decode cX7_boundOf 78 = .ok (.iload_n 2, 1) := by decide +kernel
theorem dX7_boundOf_79 : decode cX7_boundOf 79 = .ok (.iload_n 3, 1) := by decide +kernel
theorem dX7_boundOf_80 : decode cX7_boundOf 80 = .ok (.iadd, 1) := by decide +kernel
theorem dX7_boundOf_81 : decode cX7_boundOf 81 = .ok (.ldc 80, 2) := by decide +kernel
theorem dX7_boundOf_83 : decode cX7_boundOf 83 = .ok (.invokestatic 81, 3) := by decide +kernel
theorem dX7_boundOf_86 : decode cX7_boundOf 86 = .ok (.ireturn, 1) := by decide +kernel
theorem dX7_boundOf_87 : decode cX7_boundOf 87 = .ok (.iload_n 2, 1) := by decide +kernel
theorem dX7_boundOf_88 : decode cX7_boundOf 88 = .ok (.aload_n 0, 1) := by decide +kernel
theorem dX7_boundOf_89 : decode cX7_boundOf 89 = .ok (.getfield 25, 3) := by decide +kernel
theorem dX7_boundOf_92 : decode cX7_boundOf 92 = .ok (.iload_n 1, 1) := by decide +kernel
theorem dX7_boundOf_93 : decode cX7_boundOf 93 = .ok (.iaload, 1) := by decide +kernel
theorem dX7_boundOf_94 : decode cX7_boundOf 94 = .ok (.imul, 1) := by decide +kernel
theorem dX7_boundOf_95 : decode cX7_boundOf 95 = .ok (.ldc 80, 2) := by decide +kernel
theorem dX7_boundOf_97 : decode cX7_boundOf 97 = .ok (.invokestatic 81, 3) := by decide +kernel
theorem dX7_boundOf_100 : decode cX7_boundOf 100 = .ok (.ireturn, 1) := by decide +kernel
theorem dX7_boundOf_101 : decode cX7_boundOf 101 = .ok (.iload_n 2, 1) := by decide +kernel
theorem dX7_boundOf_102 : decode cX7_boundOf 102 = .ok (.ireturn, 1) := by decide +kernel
theorem dX7_atomBound_0 : decode cX7_atomBound 0 = .ok (.iload_n 1, 1) := by decide +kernel
theorem dX7_atomBound_1 : decode cX7_atomBound 1 = .ok (.bipush 100, 2) := by decide +kernel
theorem dX7_atomBound_3 : decode cX7_atomBound 3 = .ok (.if_icmp .ge 5, 3) := by decide +kernel
theorem dX7_atomBound_6 : decode cX7_atomBound 6 = .ok (.iconst 0, 1) := by decide +kernel
theorem dX7_atomBound_7 : decode cX7_atomBound 7 = .ok (.ireturn, 1) := by decide +kernel
theorem dX7_atomBound_8 : decode cX7_atomBound 8 = .ok (.iload_n 1, 1) := by decide +kernel
theorem dX7_atomBound_9 : decode cX7_atomBound 9 = .ok (.bipush 103, 2) := by decide +kernel
theorem dX7_atomBound_11 : decode cX7_atomBound 11 = .ok (.if_icmp .ge 7, 3) := by decide +kernel
theorem dX7_atomBound_14 : decode cX7_atomBound 14 = .ok (.iconst 1, 1) := by decide +kernel
theorem dX7_atomBound_15 : decode cX7_atomBound 15 = .ok (.goto 12, 3) := by decide +kernel
theorem dX7_atomBound_18 : decode cX7_atomBound 18 = .ok (.aload_n 0, 1) := by decide +kernel
theorem dX7_atomBound_19 : decode cX7_atomBound 19 = .ok (.getfield 28, 3) := by decide +kernel
theorem dX7_atomBound_22 : decode cX7_atomBound 22 = .ok (.iload_n 1, 1) := by decide +kernel
theorem dX7_atomBound_23 : decode cX7_atomBound 23 = .ok (.bipush 103, 2) := by decide +kernel
theorem dX7_atomBound_25 : decode cX7_atomBound 25 = .ok (.isub, 1) := by decide +kernel
theorem dX7_atomBound_26 : decode cX7_atomBound 26 = .ok (.iaload, 1) := by decide +kernel
theorem dX7_atomBound_27 : decode cX7_atomBound 27 = .ok (.ireturn, 1) := by decide +kernel
theorem dX7_atomPoly_0 : decode cX7_atomPoly 0 = .ok (.iload_n 1, 1) := by decide +kernel
theorem dX7_atomPoly_1 : decode cX7_atomPoly 1 = .ok (.bipush 100, 2) := by decide +kernel
theorem dX7_atomPoly_3 : decode cX7_atomPoly 3 = .ok (.if_icmp .ge 11, 3) := by decide +kernel
theorem dX7_atomPoly_6 : decode cX7_atomPoly 6 = .ok (.iconst 0, 1) := by decide +kernel
theorem dX7_atomPoly_7 : decode cX7_atomPoly 7 = .ok (.iload_n 1, 1) := by decide +kernel
theorem dX7_atomPoly_8 : decode cX7_atomPoly 8 = .ok (.iload_n 2, 1) := by decide +kernel
theorem dX7_atomPoly_9 : decode cX7_atomPoly 9 = .ok (.irem, 1) := by decide +kernel
theorem dX7_atomPoly_10 : decode cX7_atomPoly 10 = .ok (.invokestatic 84, 3) := by decide +kernel
theorem dX7_atomPoly_13 : decode cX7_atomPoly 13 = .ok (.areturn, 1) := by decide +kernel
theorem dX7_atomPoly_14 : decode cX7_atomPoly 14 = .ok (.iload_n 1, 1) := by decide +kernel
theorem dX7_atomPoly_15 : decode cX7_atomPoly 15 = .ok (.bipush 103, 2) := by decide +kernel
theorem dX7_atomPoly_17 : decode cX7_atomPoly 17 = .ok (.if_icmp .ge 17, 3) := by decide +kernel
theorem dX7_atomPoly_20 : decode cX7_atomPoly 20 = .ok (.iload_n 1, 1) := by decide +kernel
theorem dX7_atomPoly_21 : decode cX7_atomPoly 21 = .ok (.bipush 100, 2) := by decide +kernel
theorem dX7_atomPoly_23 : decode cX7_atomPoly 23 = .ok (.isub, 1) := by decide +kernel
theorem dX7_atomPoly_24 : decode cX7_atomPoly 24 = .ok (.invokestatic 87, 3) := by decide +kernel
theorem dX7_atomPoly_27 : decode cX7_atomPoly 27 = .ok (.iconst 1, 1) := by decide +kernel
theorem dX7_atomPoly_28 : decode cX7_atomPoly 28 = .ok (.invokestatic 84, 3) := by decide +kernel
theorem dX7_atomPoly_31 : decode cX7_atomPoly 31 = .ok (.goto 12, 3) := by decide +kernel
theorem dX7_atomPoly_34 : decode cX7_atomPoly 34 = .ok (.aload_n 0, 1) := by decide +kernel
theorem dX7_atomPoly_35 : decode cX7_atomPoly 35 = .ok (.getfield 33, 3) := by decide +kernel
theorem dX7_atomPoly_38 : decode cX7_atomPoly 38 = .ok (.iload_n 1, 1) := by decide +kernel
theorem dX7_atomPoly_39 : decode cX7_atomPoly 39 = .ok (.bipush 103, 2) := by decide +kernel
theorem dX7_atomPoly_41 : decode cX7_atomPoly 41 = .ok (.isub, 1) := by decide +kernel
theorem dX7_atomPoly_42 : decode cX7_atomPoly 42 = .ok (.aaload, 1) := by decide +kernel
theorem dX7_atomPoly_43 : decode cX7_atomPoly 43 = .ok (.areturn, 1) := by decide +kernel
theorem dX7_lastStandsOn_0 : decode cX7_lastStandsOn 0 = .ok (.aload_n 0, 1) := by decide +kernel
theorem dX7_lastStandsOn_1 : decode cX7_lastStandsOn 1 = .ok (.getfield 40, 3) := by decide +kernel
theorem dX7_lastStandsOn_4 : decode cX7_lastStandsOn 4 = .ok (.iconst 0, 1) := by decide +kernel
theorem dX7_lastStandsOn_5 : decode cX7_lastStandsOn 5 = .ok (.invokestatic 90, 3) := by decide +kernel
theorem dX7_lastStandsOn_8 : decode cX7_lastStandsOn 8 = .ok (.aload_n 0, 1) := by decide +kernel
theorem dX7_lastStandsOn_9 : decode cX7_lastStandsOn 9 = .ok (.getfield 40, 3) := by decide +kernel
theorem dX7_lastStandsOn_12 : decode cX7_lastStandsOn 12 = .ok (.aload_n 0, 1) := by decide +kernel
theorem dX7_lastStandsOn_13 : decode cX7_lastStandsOn 13 = .ok (.getfield 11, 3) := by decide +kernel
theorem dX7_lastStandsOn_16 : decode cX7_lastStandsOn 16 = .ok (.iconst 1, 1) := by decide +kernel
theorem dX7_lastStandsOn_17 : decode cX7_lastStandsOn 17 = .ok (.isub, 1) := by decide +kernel
theorem dX7_lastStandsOn_18 : decode cX7_lastStandsOn 18 = .ok (.iconst 1, 1) := by decide +kernel
theorem dX7_lastStandsOn_19 : decode cX7_lastStandsOn 19 = .ok (.iastore, 1) := by decide +kernel
theorem dX7_lastStandsOn_20 : decode cX7_lastStandsOn 20 = .ok (.aload_n 0, 1) := by decide +kernel
theorem dX7_lastStandsOn_21 : decode cX7_lastStandsOn 21 = .ok (.getfield 11, 3) := by decide +kernel
theorem dX7_lastStandsOn_24 : decode cX7_lastStandsOn 24 = .ok (.iconst 1, 1) := by decide +kernel
theorem dX7_lastStandsOn_25 : decode cX7_lastStandsOn 25 = .ok (.isub, 1) := by decide +kernel
theorem dX7_lastStandsOn_26 : decode cX7_lastStandsOn 26 = .ok (.istore_n 2, 1) := by decide +kernel
theorem dX7_lastStandsOn_27 : decode cX7_lastStandsOn 27 = .ok (.iload_n 2, 1) := by decide +kernel
theorem dX7_lastStandsOn_28 : decode cX7_lastStandsOn 28 = .ok (.iload_n 1, 1) := by decide +kernel
theorem dX7_lastStandsOn_29 : decode cX7_lastStandsOn 29 = .ok (.if_icmp .le 38, 3) := by decide +kernel
theorem dX7_lastStandsOn_32 : decode cX7_lastStandsOn 32 = .ok (.aload_n 0, 1) := by decide +kernel
theorem dX7_lastStandsOn_33 : decode cX7_lastStandsOn 33 = .ok (.getfield 40, 3) := by decide +kernel
theorem dX7_lastStandsOn_36 : decode cX7_lastStandsOn 36 = .ok (.iload_n 2, 1) := by decide +kernel
theorem dX7_lastStandsOn_37 : decode cX7_lastStandsOn 37 = .ok (.iaload, 1) := by decide +kernel
theorem dX7_lastStandsOn_38 : decode cX7_lastStandsOn 38 = .ok (.ifCond .eq 23, 3) := by decide +kernel
theorem dX7_lastStandsOn_41 : decode cX7_lastStandsOn 41 = .ok (.aload_n 0, 1) := by decide +kernel
theorem dX7_lastStandsOn_42 : decode cX7_lastStandsOn 42 = .ok (.aload_n 0, 1) := by decide +kernel
theorem dX7_lastStandsOn_43 : decode cX7_lastStandsOn 43 = .ok (.getfield 22, 3) := by decide +kernel
theorem dX7_lastStandsOn_46 : decode cX7_lastStandsOn 46 = .ok (.iload_n 2, 1) := by decide +kernel
theorem dX7_lastStandsOn_47 : decode cX7_lastStandsOn 47 = .ok (.iaload, 1) := by decide +kernel
theorem dX7_lastStandsOn_48 : decode cX7_lastStandsOn 48 = .ok (.invokevirtual 96, 3) := by decide +kernel
theorem dX7_lastStandsOn_51 : decode cX7_lastStandsOn 51 = .ok (.aload_n 0, 1) := by decide +kernel
theorem dX7_lastStandsOn_52 : decode cX7_lastStandsOn 52 = .ok (.aload_n 0, 1) := by decide +kernel
theorem dX7_lastStandsOn_53 : decode cX7_lastStandsOn 53 = .ok (.getfield 25, 3) := by decide +kernel
theorem dX7_lastStandsOn_56 : decode cX7_lastStandsOn 56 = .ok (.iload_n 2, 1) := by decide +kernel
theorem dX7_lastStandsOn_57 : decode cX7_lastStandsOn 57 = .ok (.iaload, 1) := by decide +kernel
theorem dX7_lastStandsOn_58 : decode cX7_lastStandsOn 58 = .ok (.invokevirtual 96, 3) := by decide +kernel
theorem dX7_lastStandsOn_61 : decode cX7_lastStandsOn 61 = .ok (.iinc 2 (-1), 3) := by decide +kernel
theorem dX7_lastStandsOn_64 : decode cX7_lastStandsOn 64 = .ok (.goto (-37), 3) := by decide +kernel
theorem dX7_lastStandsOn_67 : decode cX7_lastStandsOn 67 = .ok (.aload_n 0, 1) := by decide +kernel
theorem dX7_lastStandsOn_68 : decode cX7_lastStandsOn 68 = .ok (.getfield 40, 3) := by decide +kernel
theorem dX7_lastStandsOn_71 : decode cX7_lastStandsOn 71 = .ok (.iload_n 1, 1) := by decide +kernel
theorem dX7_lastStandsOn_72 : decode cX7_lastStandsOn 72 = .ok (.iaload, 1) := by decide +kernel
theorem dX7_lastStandsOn_73 : decode cX7_lastStandsOn 73 = .ok (.ifCond .eq 7, 3) := by decide +kernel
theorem dX7_lastStandsOn_76 : decode cX7_lastStandsOn 76 = .ok (.iconst 1, 1) := by decide +kernel
theorem dX7_lastStandsOn_77 : decode cX7_lastStandsOn 77 = .ok (.goto 4, 3) := by decide +kernel
theorem dX7_lastStandsOn_80 : decode cX7_lastStandsOn 80 = .ok (.iconst 0, 1) := by decide +kernel
theorem dX7_lastStandsOn_81 : decode cX7_lastStandsOn 81 = .ok (.ireturn, 1) := by decide +kernel
theorem dX7_mark_0 : decode cX7_mark 0 = .ok (.iload_n 1, 1) := by decide +kernel
theorem dX7_mark_1 : decode cX7_mark 1 = .ok (.bipush 103, 2) := by decide +kernel
theorem dX7_mark_3 : decode cX7_mark 3 = .ok (.if_icmp .lt 13, 3) := by decide +kernel
theorem dX7_mark_6 : decode cX7_mark 6 = .ok (.aload_n 0, 1) := by decide +kernel
theorem dX7_mark_7 : decode cX7_mark 7 = .ok (.getfield 40, 3) := by decide +kernel
theorem dX7_mark_10 : decode cX7_mark 10 = .ok (.iload_n 1, 1) := by decide +kernel
theorem dX7_mark_11 : decode cX7_mark 11 = .ok (.bipush 103, 2) := by decide +kernel
theorem dX7_mark_13 : decode cX7_mark 13 = .ok (.isub, 1) := by decide +kernel
theorem dX7_mark_14 : decode cX7_mark 14 = .ok (.iconst 1, 1) := by decide +kernel
theorem dX7_mark_15 : decode cX7_mark 15 = .ok (.iastore, 1) := by decide +kernel
theorem dX7_mark_16 : decode cX7_mark 16 = .ok (.return_, 1) := by decide +kernel
theorem dX7_firstLike_0 : decode cX7_firstLike 0 = .ok (.iconst 0, 1) := by decide +kernel
theorem dX7_firstLike_1 : decode cX7_firstLike 1 = .ok (.istore_n 2, 1) := by decide +kernel
theorem dX7_firstLike_2 : decode cX7_firstLike 2 = .ok (.iload_n 2, 1) := by decide +kernel
theorem dX7_firstLike_3 : decode cX7_firstLike 3 = .ok (.iload_n 1, 1) := by decide +kernel
theorem dX7_firstLike_4 : decode cX7_firstLike 4 = .ok (.if_icmp .ge 29, 3) := by decide +kernel
theorem dX7_firstLike_7 : decode cX7_firstLike 7 = .ok (.aload_n 0, 1) := by decide +kernel
theorem dX7_firstLike_8 : decode cX7_firstLike 8 = .ok (.getfield 33, 3) := by decide +kernel
theorem dX7_firstLike_11 : decode cX7_firstLike 11 = .ok (.iload_n 2, 1) := by decide +kernel
theorem dX7_firstLike_12 : decode cX7_firstLike 12 = .ok (.aaload, 1) := by decide +kernel
theorem dX7_firstLike_13 : decode cX7_firstLike 13 = .ok (.aload_n 0, 1) := by decide +kernel
theorem dX7_firstLike_14 : decode cX7_firstLike 14 = .ok (.getfield 33, 3) := by decide +kernel
theorem dX7_firstLike_17 : decode cX7_firstLike 17 = .ok (.iload_n 1, 1) := by decide +kernel
theorem dX7_firstLike_18 : decode cX7_firstLike 18 = .ok (.aaload, 1) := by decide +kernel
theorem dX7_firstLike_19 : decode cX7_firstLike 19 = .ok (.invokevirtual 100, 3) := by decide +kernel
theorem dX7_firstLike_22 : decode cX7_firstLike 22 = .ok (.ifCond .eq 5, 3) := by decide +kernel
theorem dX7_firstLike_25 : decode cX7_firstLike 25 = .ok (.iload_n 2, 1) := by decide +kernel
theorem dX7_firstLike_26 : decode cX7_firstLike 26 = .ok (.ireturn, 1) := by decide +kernel
theorem dX7_firstLike_27 : decode cX7_firstLike 27 = .ok (.iinc 2 1, 3) := by decide +kernel
theorem dX7_firstLike_30 : decode cX7_firstLike 30 = .ok (.goto (-28), 3) := by decide +kernel
theorem dX7_firstLike_33 : decode cX7_firstLike 33 = .ok (.iload_n 1, 1) := by decide +kernel
theorem dX7_firstLike_34 : decode cX7_firstLike 34 = .ok (.ireturn, 1) := by decide +kernel
theorem dX7_usersOf_0 : decode cX7_usersOf 0 = .ok (.iconst 0, 1) := by decide +kernel
theorem dX7_usersOf_1 : decode cX7_usersOf 1 = .ok (.istore_n 2, 1) := by decide +kernel
theorem dX7_usersOf_2 : decode cX7_usersOf 2 = .ok (.iload_n 1, 1) := by decide +kernel
theorem dX7_usersOf_3 : decode cX7_usersOf 3 = .ok (.iconst 1, 1) := by decide +kernel
theorem dX7_usersOf_4 : decode cX7_usersOf 4 = .ok (.iadd, 1) := by decide +kernel
theorem dX7_usersOf_5 : decode cX7_usersOf 5 = .ok (.istore_n 3, 1) := by decide +kernel
theorem dX7_usersOf_6 : decode cX7_usersOf 6 = .ok (.iload_n 3, 1) := by decide +kernel
theorem dX7_usersOf_7 : decode cX7_usersOf 7 = .ok (.aload_n 0, 1) := by decide +kernel
theorem dX7_usersOf_8 : decode cX7_usersOf 8 = .ok (.getfield 11, 3) := by decide +kernel
theorem dX7_usersOf_11 : decode cX7_usersOf 11 = .ok (.if_icmp .ge 38, 3) := by decide +kernel
theorem dX7_usersOf_14 : decode cX7_usersOf 14 = .ok (.aload_n 0, 1) := by decide +kernel
theorem dX7_usersOf_15 : decode cX7_usersOf 15 = .ok (.getfield 22, 3) := by decide +kernel
theorem dX7_usersOf_18 : decode cX7_usersOf 18 = .ok (.iload_n 3, 1) := by decide +kernel
theorem dX7_usersOf_19 : decode cX7_usersOf 19 = .ok (.iaload, 1) := by decide +kernel
theorem dX7_usersOf_20 : decode cX7_usersOf 20 = .ok (.bipush 103, 2) := by decide +kernel
theorem dX7_usersOf_22 : decode cX7_usersOf 22 = .ok (.iload_n 1, 1) := by decide +kernel
theorem dX7_usersOf_23 : decode cX7_usersOf 23 = .ok (.iadd, 1) := by decide +kernel
theorem dX7_usersOf_24 : decode cX7_usersOf 24 = .ok (.if_icmp .eq 16, 3) := by decide +kernel
theorem dX7_usersOf_27 : decode cX7_usersOf 27 = .ok (.aload_n 0, 1) := by decide +kernel
theorem dX7_usersOf_28 : decode cX7_usersOf 28 = .ok (.getfield 25, 3) := by decide +kernel
theorem dX7_usersOf_31 : decode cX7_usersOf 31 = .ok (.iload_n 3, 1) := by decide +kernel
theorem dX7_usersOf_32 : decode cX7_usersOf 32 = .ok (.iaload, 1) := by decide +kernel
theorem dX7_usersOf_33 : decode cX7_usersOf 33 = .ok (.bipush 103, 2) := by decide +kernel
theorem dX7_usersOf_35 : decode cX7_usersOf 35 = .ok (.iload_n 1, 1) := by decide +kernel
theorem dX7_usersOf_36 : decode cX7_usersOf 36 = .ok (.iadd, 1) := by decide +kernel
theorem dX7_usersOf_37 : decode cX7_usersOf 37 = .ok (.if_icmp .ne 6, 3) := by decide +kernel
theorem dX7_usersOf_40 : decode cX7_usersOf 40 = .ok (.iinc 2 1, 3) := by decide +kernel
theorem dX7_usersOf_43 : decode cX7_usersOf 43 = .ok (.iinc 3 1, 3) := by decide +kernel
theorem dX7_usersOf_46 : decode cX7_usersOf 46 = .ok (.goto (-40), 3) := by decide +kernel
theorem dX7_usersOf_49 : decode cX7_usersOf 49 = .ok (.iload_n 2, 1) := by decide +kernel
theorem dX7_usersOf_50 : decode cX7_usersOf 50 = .ok (.ireturn, 1) := by decide +kernel
theorem dX7_findValues_0 : decode cX7_findValues 0 = .ok (.aload_n 0, 1) := by decide +kernel
theorem dX7_findValues_1 : decode cX7_findValues 1 = .ok (.getfield 43, 3) := by decide +kernel
theorem dX7_findValues_4 : decode cX7_findValues 4 = .ok (.iconst 0, 1) := by decide +kernel
theorem dX7_findValues_5 : decode cX7_findValues 5 = .ok (.iload_n 1, 1) := by decide +kernel
theorem dX7_findValues_6 : decode cX7_findValues 6 = .ok (.iastore, 1) := by decide +kernel
theorem dX7_findValues_7 : decode cX7_findValues 7 = .ok (.aload_n 0, 1) := by decide +kernel
theorem dX7_findValues_8 : decode cX7_findValues 8 = .ok (.getfield 43, 3) := by decide +kernel
theorem dX7_findValues_11 : decode cX7_findValues 11 = .ok (.iconst 1, 1) := by decide +kernel
theorem dX7_findValues_12 : decode cX7_findValues 12 = .ok (.iload_n 2, 1) := by decide +kernel
theorem dX7_findValues_13 : decode cX7_findValues 13 = .ok (.iastore, 1) := by decide +kernel
theorem dX7_findValues_14 : decode cX7_findValues 14 = .ok (.aload_n 0, 1) := by decide +kernel
theorem dX7_findValues_15 : decode cX7_findValues 15 = .ok (.getfield 43, 3) := by decide +kernel
theorem dX7_findValues_18 : decode cX7_findValues 18 = .ok (.iconst 2, 1) := by decide +kernel
theorem dX7_findValues_19 : decode cX7_findValues 19 = .ok (.iload_n 3, 1) := by decide +kernel
theorem dX7_findValues_20 : decode cX7_findValues 20 = .ok (.iastore, 1) := by decide +kernel
theorem dX7_findValues_21 : decode cX7_findValues 21 = .ok (.iconst 0, 1) := by decide +kernel
theorem dX7_findValues_22 : decode cX7_findValues 22 = .ok (.istore 5, 2) := by decide +kernel
theorem dX7_findValues_24 : decode cX7_findValues 24 = .ok (.iload 5, 2) := by decide +kernel
theorem dX7_findValues_26 : decode cX7_findValues 26 = .ok (.aload_n 0, 1) := by decide +kernel
theorem dX7_findValues_27 : decode cX7_findValues 27 = .ok (.getfield 11, 3) := by decide +kernel
theorem dX7_findValues_30 : decode cX7_findValues 30 = .ok (.if_icmp .ge 24, 3) := by decide +kernel
theorem dX7_findValues_33 : decode cX7_findValues 33 = .ok (.aload_n 0, 1) := by decide +kernel
theorem dX7_findValues_34 : decode cX7_findValues 34 = .ok (.getfield 37, 3) := by decide +kernel
theorem dX7_findValues_37 : decode cX7_findValues 37 = .ok (.iload 5, 2) := by decide +kernel
theorem dX7_findValues_39 : decode cX7_findValues 39 = .ok (.aload_n 0, 1) := by decide +kernel
theorem dX7_findValues_40 : decode cX7_findValues 40 = .ok (.iload 5, 2) := by decide +kernel
theorem dX7_findValues_42 : decode cX7_findValues 42 = .ok (.iload 4, 2) := by decide +kernel
theorem dX7_findValues_44 : decode cX7_findValues 44 = .ok (.invokevirtual 104, 3) := by decide +kernel
theorem dX7_findValues_47 : decode cX7_findValues 47 = .ok (.iastore, 1) := by decide +kernel
theorem dX7_findValues_48 : decode cX7_findValues 48 = .ok (.iinc 5 1, 3) := by decide +kernel
theorem dX7_findValues_51 : decode cX7_findValues 51 = .ok (.goto (-27), 3) := by decide +kernel
theorem dX7_findValues_54 : decode cX7_findValues 54 = .ok (.return_, 1) := by decide +kernel
theorem dX7_stepValue_0 : decode cX7_stepValue 0 = .ok (.aload_n 0, 1) := by decide +kernel
theorem dX7_stepValue_1 : decode cX7_stepValue 1 = .ok (.aload_n 0, 1) := by decide +kernel
theorem dX7_stepValue_2 : decode cX7_stepValue 2 = .ok (.getfield 22, 3) := by decide +kernel
theorem dX7_stepValue_5 : decode cX7_stepValue 5 = .ok (.iload_n 1, 1) := by decide +kernel
theorem dX7_stepValue_6 : decode cX7_stepValue 6 = .ok (.iaload, 1) := by decide +kernel
theorem dX7_stepValue_7 : decode cX7_stepValue 7 = .ok (.iload_n 2, 1) := by decide +kernel
theorem dX7_stepValue_8 : decode cX7_stepValue 8 = .ok (.invokevirtual 107, 3) := by decide +kernel
theorem dX7_stepValue_11 : decode cX7_stepValue 11 = .ok (.istore_n 3, 1) := by decide +kernel
theorem dX7_stepValue_12 : decode cX7_stepValue 12 = .ok (.aload_n 0, 1) := by decide +kernel
theorem dX7_stepValue_13 : decode cX7_stepValue 13 = .ok (.aload_n 0, 1) := by decide +kernel
theorem dX7_stepValue_14 : decode cX7_stepValue 14 = .ok (.getfield 25, 3) := by decide +kernel
theorem dX7_stepValue_17 : decode cX7_stepValue 17 = .ok (.iload_n 1, 1) := by decide +kernel
theorem dX7_stepValue_18 : decode cX7_stepValue 18 = .ok (.iaload, 1) := by decide +kernel
theorem dX7_stepValue_19 : decode cX7_stepValue 19 = .ok (.iload_n 2, 1) := by decide +kernel
theorem dX7_stepValue_20 : decode cX7_stepValue 20 = .ok (.invokevirtual 107, 3) := by decide +kernel
theorem dX7_stepValue_23 : decode cX7_stepValue 23 = .ok (.istore 4, 2) := by decide +kernel
theorem dX7_stepValue_25 : decode cX7_stepValue 25 = .ok (.aload_n 0, 1) := by decide +kernel
theorem dX7_stepValue_26 : decode cX7_stepValue 26 = .ok (.getfield 19, 3) := by decide +kernel
theorem dX7_stepValue_29 : decode cX7_stepValue 29 = .ok (.iload_n 1, 1) := by decide +kernel
theorem dX7_stepValue_30 : decode cX7_stepValue 30 = .ok (.iaload, 1) := by decide +kernel
theorem dX7_stepValue_31 : decode cX7_stepValue 31 = .ok (.lookupswitch 76 #[(42, 57), (43, 41), (45, 48), (94, 64)], 41) := by decide +kernel
theorem dX7_stepValue_72 : decode cX7_stepValue 72 = .ok (.iload_n 3, 1) := by decide +kernel
theorem dX7_stepValue_73 : decode cX7_stepValue 73 = .ok (.iload 4, 2) := by decide +kernel
theorem dX7_stepValue_75 : decode cX7_stepValue 75 = .ok (.iadd, 1) := by decide +kernel
theorem dX7_stepValue_76 : decode cX7_stepValue 76 = .ok (.iload_n 2, 1) := by decide +kernel
theorem dX7_stepValue_77 : decode cX7_stepValue 77 = .ok (.irem, 1) := by decide +kernel
theorem dX7_stepValue_78 : decode cX7_stepValue 78 = .ok (.ireturn, 1) := by decide +kernel
theorem dX7_stepValue_79 : decode cX7_stepValue 79 = .ok (.iload_n 3, 1) := by decide +kernel
theorem dX7_stepValue_80 : decode cX7_stepValue 80 = .ok (.iload_n 2, 1) := by decide +kernel
theorem dX7_stepValue_81 : decode cX7_stepValue 81 = .ok (.iadd, 1) := by decide +kernel
theorem dX7_stepValue_82 : decode cX7_stepValue 82 = .ok (.iload 4, 2) := by decide +kernel
theorem dX7_stepValue_84 : decode cX7_stepValue 84 = .ok (.isub, 1) := by decide +kernel
theorem dX7_stepValue_85 : decode cX7_stepValue 85 = .ok (.iload_n 2, 1) := by decide +kernel
theorem dX7_stepValue_86 : decode cX7_stepValue 86 = .ok (.irem, 1) := by decide +kernel
theorem dX7_stepValue_87 : decode cX7_stepValue 87 = .ok (.ireturn, 1) := by decide +kernel
theorem dX7_stepValue_88 : decode cX7_stepValue 88 = .ok (.iload_n 3, 1) := by decide +kernel
theorem dX7_stepValue_89 : decode cX7_stepValue 89 = .ok (.iload 4, 2) := by decide +kernel
theorem dX7_stepValue_91 : decode cX7_stepValue 91 = .ok (.imul, 1) := by decide +kernel
theorem dX7_stepValue_92 : decode cX7_stepValue 92 = .ok (.iload_n 2, 1) := by decide +kernel
theorem dX7_stepValue_93 : decode cX7_stepValue 93 = .ok (.irem, 1) := by decide +kernel
theorem dX7_stepValue_94 : decode cX7_stepValue 94 = .ok (.ireturn, 1) := by decide +kernel
theorem dX7_stepValue_95 : decode cX7_stepValue 95 = .ok (.iload_n 3, 1) := by decide +kernel
theorem dX7_stepValue_96 : decode cX7_stepValue 96 = .ok (.aload_n 0, 1) := by decide +kernel
theorem dX7_stepValue_97 : decode cX7_stepValue 97 = .ok (.getfield 25, 3) := by decide +kernel
theorem dX7_stepValue_100 : decode cX7_stepValue 100 = .ok (.iload_n 1, 1) := by decide +kernel
theorem dX7_stepValue_101 : decode cX7_stepValue 101 = .ok (.iaload, 1) := by decide +kernel
theorem dX7_stepValue_102 : decode cX7_stepValue 102 = .ok (.iload_n 2, 1) := by decide +kernel
theorem dX7_stepValue_103 : decode cX7_stepValue 103 = .ok (.invokestatic 110, 3) := by decide +kernel
theorem dX7_stepValue_106 : decode cX7_stepValue 106 = .ok (.ireturn, 1) := by decide +kernel
theorem dX7_stepValue_107 : decode cX7_stepValue 107 = .ok (.iload_n 3, 1) := by decide +kernel
theorem dX7_stepValue_108 : decode cX7_stepValue 108 = .ok (.ireturn, 1) := by decide +kernel
theorem dX7_atomValue_0 : decode cX7_atomValue 0 = .ok (.iload_n 1, 1) := by decide +kernel
theorem dX7_atomValue_1 : decode cX7_atomValue 1 = .ok (.bipush 100, 2) := by decide +kernel
theorem dX7_atomValue_3 : decode cX7_atomValue 3 = .ok (.if_icmp .ge 7, 3) := by decide +kernel
theorem dX7_atomValue_6 : decode cX7_atomValue 6 = .ok (.iload_n 1, 1) := by decide +kernel
theorem dX7_atomValue_7 : decode cX7_atomValue 7 = .ok (.iload_n 2, 1) := by decide +kernel
theorem dX7_atomValue_8 : decode cX7_atomValue 8 = .ok (.irem, 1) := by decide +kernel
theorem dX7_atomValue_9 : decode cX7_atomValue 9 = .ok (.ireturn, 1) := by decide +kernel
theorem dX7_atomValue_10 : decode cX7_atomValue 10 = .ok (.iload_n 1, 1) := by decide +kernel
theorem dX7_atomValue_11 : decode cX7_atomValue 11 = .ok (.bipush 103, 2) := by decide +kernel
theorem dX7_atomValue_13 : decode cX7_atomValue 13 = .ok (.if_icmp .ge 15, 3) := by decide +kernel
theorem dX7_atomValue_16 : decode cX7_atomValue 16 = .ok (.aload_n 0, 1) := by decide +kernel
theorem dX7_atomValue_17 : decode cX7_atomValue 17 = .ok (.getfield 43, 3) := by decide +kernel
theorem dX7_atomValue_20 : decode cX7_atomValue 20 = .ok (.iload_n 1, 1) := by decide +kernel
theorem dX7_atomValue_21 : decode cX7_atomValue 21 = .ok (.bipush 100, 2) := by decide +kernel
theorem dX7_atomValue_23 : decode cX7_atomValue 23 = .ok (.isub, 1) := by decide +kernel
theorem dX7_atomValue_24 : decode cX7_atomValue 24 = .ok (.iaload, 1) := by decide +kernel
theorem dX7_atomValue_25 : decode cX7_atomValue 25 = .ok (.goto 12, 3) := by decide +kernel
theorem dX7_atomValue_28 : decode cX7_atomValue 28 = .ok (.aload_n 0, 1) := by decide +kernel
theorem dX7_atomValue_29 : decode cX7_atomValue 29 = .ok (.getfield 37, 3) := by decide +kernel
theorem dX7_atomValue_32 : decode cX7_atomValue 32 = .ok (.iload_n 1, 1) := by decide +kernel
theorem dX7_atomValue_33 : decode cX7_atomValue 33 = .ok (.bipush 103, 2) := by decide +kernel
theorem dX7_atomValue_35 : decode cX7_atomValue 35 = .ok (.isub, 1) := by decide +kernel
theorem dX7_atomValue_36 : decode cX7_atomValue 36 = .ok (.iaload, 1) := by decide +kernel
theorem dX7_atomValue_37 : decode cX7_atomValue 37 = .ok (.ireturn, 1) := by decide +kernel
theorem dX7_turnOf_0 : decode cX7_turnOf 0 = .ok (.aload_n 0, 1) := by decide +kernel
theorem dX7_turnOf_1 : decode cX7_turnOf 1 = .ok (.getfield 40, 3) := by decide +kernel
theorem dX7_turnOf_4 : decode cX7_turnOf 4 = .ok (.iconst 0, 1) := by decide +kernel
theorem dX7_turnOf_5 : decode cX7_turnOf 5 = .ok (.invokestatic 90, 3) := by decide +kernel
theorem dX7_turnOf_8 : decode cX7_turnOf 8 = .ok (.aload_n 0, 1) := by decide +kernel
theorem dX7_turnOf_9 : decode cX7_turnOf 9 = .ok (.getfield 40, 3) := by decide +kernel
theorem dX7_turnOf_12 : decode cX7_turnOf 12 = .ok (.aload_n 0, 1) := by decide +kernel
theorem dX7_turnOf_13 : decode cX7_turnOf 13 = .ok (.getfield 11, 3) := by decide +kernel
theorem dX7_turnOf_16 : decode cX7_turnOf 16 = .ok (.iconst 1, 1) := by decide +kernel
theorem dX7_turnOf_17 : decode cX7_turnOf 17 = .ok (.isub, 1) := by decide +kernel
theorem dX7_turnOf_18 : decode cX7_turnOf 18 = .ok (.iconst 1, 1) := by decide +kernel
theorem dX7_turnOf_19 : decode cX7_turnOf 19 = .ok (.iastore, 1) := by decide +kernel
theorem dX7_turnOf_20 : decode cX7_turnOf 20 = .ok (.aload_n 0, 1) := by decide +kernel
theorem dX7_turnOf_21 : decode cX7_turnOf 21 = .ok (.getfield 11, 3) := by decide +kernel
theorem dX7_turnOf_24 : decode cX7_turnOf 24 = .ok (.iconst 1, 1) := by decide +kernel
theorem dX7_turnOf_25 : decode cX7_turnOf 25 = .ok (.isub, 1) := by decide +kernel
theorem dX7_turnOf_26 : decode cX7_turnOf 26 = .ok (.istore_n 3, 1) := by decide +kernel
theorem dX7_turnOf_27 : decode cX7_turnOf 27 = .ok (.iload_n 3, 1) := by decide +kernel
theorem dX7_turnOf_28 : decode cX7_turnOf 28 = .ok (.iload_n 1, 1) := by decide +kernel
theorem dX7_turnOf_29 : decode cX7_turnOf 29 = .ok (.if_icmp .le 15, 3) := by decide +kernel
theorem dX7_turnOf_32 : decode cX7_turnOf 32 = .ok (.aload_n 0, 1) := by decide +kernel
theorem dX7_turnOf_33 : decode cX7_turnOf 33 = .ok (.iload_n 3, 1) := by decide +kernel
theorem dX7_turnOf_34 : decode cX7_turnOf 34 = .ok (.iload_n 2, 1) := by decide +kernel
theorem dX7_turnOf_35 : decode cX7_turnOf 35 = .ok (.invokevirtual 114, 3) := by decide +kernel
theorem dX7_turnOf_38 : decode cX7_turnOf 38 = .ok (.iinc 3 (-1), 3) := by decide +kernel
theorem dX7_turnOf_41 : decode cX7_turnOf 41 = .ok (.goto (-14), 3) := by decide +kernel
theorem dX7_turnOf_44 : decode cX7_turnOf 44 = .ok (.aload_n 0, 1) := by decide +kernel
theorem dX7_turnOf_45 : decode cX7_turnOf 45 = .ok (.getfield 40, 3) := by decide +kernel
theorem dX7_turnOf_48 : decode cX7_turnOf 48 = .ok (.iload_n 1, 1) := by decide +kernel
theorem dX7_turnOf_49 : decode cX7_turnOf 49 = .ok (.iaload, 1) := by decide +kernel
theorem dX7_turnOf_50 : decode cX7_turnOf 50 = .ok (.ireturn, 1) := by decide +kernel
theorem dX7_handBack_0 : decode cX7_handBack 0 = .ok (.aload_n 0, 1) := by decide +kernel
theorem dX7_handBack_1 : decode cX7_handBack 1 = .ok (.getfield 40, 3) := by decide +kernel
theorem dX7_handBack_4 : decode cX7_handBack 4 = .ok (.iload_n 1, 1) := by decide +kernel
theorem dX7_handBack_5 : decode cX7_handBack 5 = .ok (.iaload, 1) := by decide +kernel
theorem dX7_handBack_6 : decode cX7_handBack 6 = .ok (.istore_n 3, 1) := by decide +kernel
theorem dX7_handBack_7 : decode cX7_handBack 7 = .ok (.aload_n 0, 1) := by decide +kernel
theorem dX7_handBack_8 : decode cX7_handBack 8 = .ok (.aload_n 0, 1) := by decide +kernel
theorem dX7_handBack_9 : decode cX7_handBack 9 = .ok (.getfield 22, 3) := by decide +kernel
theorem dX7_handBack_12 : decode cX7_handBack 12 = .ok (.iload_n 1, 1) := by decide +kernel
theorem dX7_handBack_13 : decode cX7_handBack 13 = .ok (.iaload, 1) := by decide +kernel
theorem dX7_handBack_14 : decode cX7_handBack 14 = .ok (.iload_n 2, 1) := by decide +kernel
theorem dX7_handBack_15 : decode cX7_handBack 15 = .ok (.invokevirtual 107, 3) := by decide +kernel
theorem dX7_handBack_18 : decode cX7_handBack 18 = .ok (.istore 4, 2) := by decide +kernel
theorem dX7_handBack_20 : decode cX7_handBack 20 = .ok (.aload_n 0, 1) := by decide +kernel
theorem dX7_handBack_21 : decode cX7_handBack 21 = .ok (.aload_n 0, 1) := by decide +kernel
theorem dX7_handBack_22 : decode cX7_handBack 22 = .ok (.getfield 25, 3) := by decide +kernel
theorem dX7_handBack_25 : decode cX7_handBack 25 = .ok (.iload_n 1, 1) := by decide +kernel
theorem dX7_handBack_26 : decode cX7_handBack 26 = .ok (.iaload, 1) := by decide +kernel
theorem dX7_handBack_27 : decode cX7_handBack 27 = .ok (.iload_n 2, 1) := by decide +kernel
theorem dX7_handBack_28 : decode cX7_handBack 28 = .ok (.invokevirtual 107, 3) := by decide +kernel
theorem dX7_handBack_31 : decode cX7_handBack 31 = .ok (.istore 5, 2) := by decide +kernel
theorem dX7_handBack_33 : decode cX7_handBack 33 = .ok (.aload_n 0, 1) := by decide +kernel
theorem dX7_handBack_34 : decode cX7_handBack 34 = .ok (.getfield 19, 3) := by decide +kernel
theorem dX7_handBack_37 : decode cX7_handBack 37 = .ok (.iload_n 1, 1) := by decide +kernel
theorem dX7_handBack_38 : decode cX7_handBack 38 = .ok (.iaload, 1) := by decide +kernel
theorem dX7_handBack_39 : decode cX7_handBack 39 = .ok (.lookupswitch 169 #[(42, 99), (43, 41), (45, 68), (94, 132)], 41) := by decide +kernel
theorem dX7_handBack_80 : decode cX7_handBack 80 = .ok (.aload_n 0, 1) := by decide +kernel
theorem dX7_handBack_81 : decode cX7_handBack 81 = .ok (.aload_n 0, 1) := by decide +kernel
theorem dX7_handBack_82 : decode cX7_handBack 82 = .ok (.getfield 22, 3) := by decide +kernel
theorem dX7_handBack_85 : decode cX7_handBack 85 = .ok (.iload_n 1, 1) := by decide +kernel
theorem dX7_handBack_86 : decode cX7_handBack 86 = .ok (.iaload, 1) := by decide +kernel
theorem dX7_handBack_87 : decode cX7_handBack 87 = .ok (.iload_n 3, 1) := by decide +kernel
theorem dX7_handBack_88 : decode cX7_handBack 88 = .ok (.iload_n 2, 1) := by decide +kernel
theorem dX7_handBack_89 : decode cX7_handBack 89 = .ok (.invokevirtual 118, 3) := by decide +kernel
theorem dX7_handBack_92 : decode cX7_handBack 92 = .ok (.aload_n 0, 1) := by decide +kernel
theorem dX7_handBack_93 : decode cX7_handBack 93 = .ok (.aload_n 0, 1) := by decide +kernel
theorem dX7_handBack_94 : decode cX7_handBack 94 = .ok (.getfield 25, 3) := by decide +kernel
theorem dX7_handBack_97 : decode cX7_handBack 97 = .ok (.iload_n 1, 1) := by decide +kernel
theorem dX7_handBack_98 : decode cX7_handBack 98 = .ok (.iaload, 1) := by decide +kernel
theorem dX7_handBack_99 : decode cX7_handBack 99 = .ok (.iload_n 3, 1) := by decide +kernel
theorem dX7_handBack_100 : decode cX7_handBack 100 = .ok (.iload_n 2, 1) := by decide +kernel
theorem dX7_handBack_101 : decode cX7_handBack 101 = .ok (.invokevirtual 118, 3) := by decide +kernel
theorem dX7_handBack_104 : decode cX7_handBack 104 = .ok (.goto 116, 3) := by decide +kernel
theorem dX7_handBack_107 : decode cX7_handBack 107 = .ok (.aload_n 0, 1) := by decide +kernel
theorem dX7_handBack_108 : decode cX7_handBack 108 = .ok (.aload_n 0, 1) := by decide +kernel
theorem dX7_handBack_109 : decode cX7_handBack 109 = .ok (.getfield 22, 3) := by decide +kernel
theorem dX7_handBack_112 : decode cX7_handBack 112 = .ok (.iload_n 1, 1) := by decide +kernel
theorem dX7_handBack_113 : decode cX7_handBack 113 = .ok (.iaload, 1) := by decide +kernel
theorem dX7_handBack_114 : decode cX7_handBack 114 = .ok (.iload_n 3, 1) := by decide +kernel
theorem dX7_handBack_115 : decode cX7_handBack 115 = .ok (.iload_n 2, 1) := by decide +kernel
theorem dX7_handBack_116 : decode cX7_handBack 116 = .ok (.invokevirtual 118, 3) := by decide +kernel
theorem dX7_handBack_119 : decode cX7_handBack 119 = .ok (.aload_n 0, 1) := by decide +kernel
theorem dX7_handBack_120 : decode cX7_handBack 120 = .ok (.aload_n 0, 1) := by decide +kernel
theorem dX7_handBack_121 : decode cX7_handBack 121 = .ok (.getfield 25, 3) := by decide +kernel
theorem dX7_handBack_124 : decode cX7_handBack 124 = .ok (.iload_n 1, 1) := by decide +kernel
theorem dX7_handBack_125 : decode cX7_handBack 125 = .ok (.iaload, 1) := by decide +kernel
theorem dX7_handBack_126 : decode cX7_handBack 126 = .ok (.iload_n 3, 1) := by decide +kernel
theorem dX7_handBack_127 : decode cX7_handBack 127 = .ok (.iload_n 2, 1) := by decide +kernel
theorem dX7_handBack_128 : decode cX7_handBack 128 = .ok (.iconst 1, 1) := by decide +kernel
theorem dX7_handBack_129 : decode cX7_handBack 129 = .ok (.isub, 1) := by decide +kernel
theorem dX7_handBack_130 : decode cX7_handBack 130 = .ok (.imul, 1) := by decide +kernel
theorem dX7_handBack_131 : decode cX7_handBack 131 = .ok (.iload_n 2, 1) := by decide +kernel
theorem dX7_handBack_132 : decode cX7_handBack 132 = .ok (.invokevirtual 118, 3) := by decide +kernel
theorem dX7_handBack_135 : decode cX7_handBack 135 = .ok (.goto 85, 3) := by decide +kernel
theorem dX7_handBack_138 : decode cX7_handBack 138 = .ok (.aload_n 0, 1) := by decide +kernel
theorem dX7_handBack_139 : decode cX7_handBack 139 = .ok (.aload_n 0, 1) := by decide +kernel
theorem dX7_handBack_140 : decode cX7_handBack 140 = .ok (.getfield 22, 3) := by decide +kernel
theorem dX7_handBack_143 : decode cX7_handBack 143 = .ok (.iload_n 1, 1) := by decide +kernel
theorem dX7_handBack_144 : decode cX7_handBack 144 = .ok (.iaload, 1) := by decide +kernel
theorem dX7_handBack_145 : decode cX7_handBack 145 = .ok (.iload_n 3, 1) := by decide +kernel
theorem dX7_handBack_146 : decode cX7_handBack 146 = .ok (.iload 5, 2) := by decide +kernel
theorem dX7_handBack_148 : decode cX7_handBack 148 = .ok (.imul, 1) := by decide +kernel
theorem dX7_handBack_149 : decode cX7_handBack 149 = .ok (.iload_n 2, 1) := by decide +kernel
theorem dX7_handBack_150 : decode cX7_handBack 150 = .ok (.invokevirtual 118, 3) := by decide +kernel
theorem dX7_handBack_153 : decode cX7_handBack 153 = .ok (.aload_n 0, 1) := by decide +kernel
theorem dX7_handBack_154 : decode cX7_handBack 154 = .ok (.aload_n 0, 1) := by decide +kernel
theorem dX7_handBack_155 : decode cX7_handBack 155 = .ok (.getfield 25, 3) := by decide +kernel
theorem dX7_handBack_158 : decode cX7_handBack 158 = .ok (.iload_n 1, 1) := by decide +kernel
theorem dX7_handBack_159 : decode cX7_handBack 159 = .ok (.iaload, 1) := by decide +kernel
theorem dX7_handBack_160 : decode cX7_handBack 160 = .ok (.iload_n 3, 1) := by decide +kernel
theorem dX7_handBack_161 : decode cX7_handBack 161 = .ok (.iload 4, 2) := by decide +kernel
theorem dX7_handBack_163 : decode cX7_handBack 163 = .ok (.imul, 1) := by decide +kernel
theorem dX7_handBack_164 : decode cX7_handBack 164 = .ok (.iload_n 2, 1) := by decide +kernel
theorem dX7_handBack_165 : decode cX7_handBack 165 = .ok (.invokevirtual 118, 3) := by decide +kernel
theorem dX7_handBack_168 : decode cX7_handBack 168 = .ok (.goto 52, 3) := by decide +kernel
theorem dX7_handBack_171 : decode cX7_handBack 171 = .ok (.aload_n 0, 1) := by decide +kernel
theorem dX7_handBack_172 : decode cX7_handBack 172 = .ok (.aload_n 0, 1) := by decide +kernel
theorem dX7_handBack_173 : decode cX7_handBack 173 = .ok (.getfield 22, 3) := by decide +kernel
theorem dX7_handBack_176 : decode cX7_handBack 176 = .ok (.iload_n 1, 1) := by decide +kernel
theorem dX7_handBack_177 : decode cX7_handBack 177 = .ok (.iaload, 1) := by decide +kernel
theorem dX7_handBack_178 : decode cX7_handBack 178 = .ok (.iload_n 3, 1) := by decide +kernel
theorem dX7_handBack_179 : decode cX7_handBack 179 = .ok (.aload_n 0, 1) := by decide +kernel
theorem dX7_handBack_180 : decode cX7_handBack 180 = .ok (.getfield 25, 3) := by decide +kernel
theorem dX7_handBack_183 : decode cX7_handBack 183 = .ok (.iload_n 1, 1) := by decide +kernel
theorem dX7_handBack_184 : decode cX7_handBack 184 = .ok (.iaload, 1) := by decide +kernel
theorem dX7_handBack_185 : decode cX7_handBack 185 = .ok (.imul, 1) := by decide +kernel
theorem dX7_handBack_186 : decode cX7_handBack 186 = .ok (.iload 4, 2) := by decide +kernel
theorem dX7_handBack_188 : decode cX7_handBack 188 = .ok (.aload_n 0, 1) := by decide +kernel
theorem dX7_handBack_189 : decode cX7_handBack 189 = .ok (.getfield 25, 3) := by decide +kernel
theorem dX7_handBack_192 : decode cX7_handBack 192 = .ok (.iload_n 1, 1) := by decide +kernel
theorem dX7_handBack_193 : decode cX7_handBack 193 = .ok (.iaload, 1) := by decide +kernel
theorem dX7_handBack_194 : decode cX7_handBack 194 = .ok (.iconst 1, 1) := by decide +kernel
theorem dX7_handBack_195 : decode cX7_handBack 195 = .ok (.isub, 1) := by decide +kernel
theorem dX7_handBack_196 : decode cX7_handBack 196 = .ok (.iload_n 2, 1) := by decide +kernel
theorem dX7_handBack_197 : decode cX7_handBack 197 = .ok (.invokestatic 110, 3) := by decide +kernel
theorem dX7_handBack_200 : decode cX7_handBack 200 = .ok (.imul, 1) := by decide +kernel
theorem dX7_handBack_201 : decode cX7_handBack 201 = .ok (.iload_n 2, 1) := by decide +kernel
theorem dX7_handBack_202 : decode cX7_handBack 202 = .ok (.invokevirtual 118, 3) := by decide +kernel
theorem dX7_handBack_205 : decode cX7_handBack 205 = .ok (.goto 15, 3) := by decide +kernel
theorem dX7_handBack_208 : decode cX7_handBack 208 = .ok (.aload_n 0, 1) := by decide +kernel
theorem dX7_handBack_209 : decode cX7_handBack 209 = .ok (.aload_n 0, 1) := by decide +kernel
theorem dX7_handBack_210 : decode cX7_handBack 210 = .ok (.getfield 22, 3) := by decide +kernel
theorem dX7_handBack_213 : decode cX7_handBack 213 = .ok (.iload_n 1, 1) := by decide +kernel
theorem dX7_handBack_214 : decode cX7_handBack 214 = .ok (.iaload, 1) := by decide +kernel
theorem dX7_handBack_215 : decode cX7_handBack 215 = .ok (.iload_n 3, 1) := by decide +kernel
theorem dX7_handBack_216 : decode cX7_handBack 216 = .ok (.iload_n 2, 1) := by decide +kernel
theorem dX7_handBack_217 : decode cX7_handBack 217 = .ok (.invokevirtual 118, 3) := by decide +kernel
theorem dX7_handBack_220 : decode cX7_handBack 220 = .ok (.return_, 1) := by decide +kernel
theorem dX7_hand_0 : decode cX7_hand 0 = .ok (.iload_n 1, 1) := by decide +kernel
theorem dX7_hand_1 : decode cX7_hand 1 = .ok (.bipush 103, 2) := by decide +kernel
theorem dX7_hand_3 : decode cX7_hand 3 = .ok (.if_icmp .lt 25, 3) := by decide +kernel
theorem dX7_hand_6 : decode cX7_hand 6 = .ok (.aload_n 0, 1) := by decide +kernel
theorem dX7_hand_7 : decode cX7_hand 7 = .ok (.getfield 40, 3) := by decide +kernel
theorem dX7_hand_10 : decode cX7_hand 10 = .ok (.iload_n 1, 1) := by decide +kernel
theorem dX7_hand_11 : decode cX7_hand 11 = .ok (.bipush 103, 2) := by decide +kernel
theorem dX7_hand_13 : decode cX7_hand 13 = .ok (.isub, 1) := by decide +kernel
theorem dX7_hand_14 : decode cX7_hand 14 = .ok (.aload_n 0, 1) := by decide +kernel
theorem dX7_hand_15 : decode cX7_hand 15 = .ok (.getfield 40, 3) := by decide +kernel
theorem dX7_hand_18 : decode cX7_hand 18 = .ok (.iload_n 1, 1) := by decide +kernel
theorem dX7_hand_19 : decode cX7_hand 19 = .ok (.bipush 103, 2) := by decide +kernel
theorem dX7_hand_21 : decode cX7_hand 21 = .ok (.isub, 1) := by decide +kernel
theorem dX7_hand_22 : decode cX7_hand 22 = .ok (.iaload, 1) := by decide +kernel
theorem dX7_hand_23 : decode cX7_hand 23 = .ok (.iload_n 2, 1) := by decide +kernel
theorem dX7_hand_24 : decode cX7_hand 24 = .ok (.iadd, 1) := by decide +kernel
theorem dX7_hand_25 : decode cX7_hand 25 = .ok (.iload_n 3, 1) := by decide +kernel
theorem dX7_hand_26 : decode cX7_hand 26 = .ok (.irem, 1) := by decide +kernel
theorem dX7_hand_27 : decode cX7_hand 27 = .ok (.iastore, 1) := by decide +kernel
theorem dX7_hand_28 : decode cX7_hand 28 = .ok (.return_, 1) := by decide +kernel
theorem dX9_init_0 : decode cX9_init 0 = .ok (.aload_n 0, 1) := by decide +kernel
theorem dX9_init_1 : decode cX9_init 1 = .ok (.invokespecial 3, 3) := by decide +kernel
theorem dX9_init_4 : decode cX9_init 4 = .ok (.aload_n 0, 1) := by decide +kernel
theorem dX9_init_5 : decode cX9_init 5 = .ok (.iconst 5, 1) := by decide +kernel
theorem dX9_init_6 : decode cX9_init 6 = .ok (.putfield 9, 3) := by decide +kernel
theorem dX9_init_9 : decode cX9_init 9 = .ok (.aload_n 0, 1) := by decide +kernel
theorem dX9_init_10 : decode cX9_init 10 = .ok (.new 15, 3) := by decide +kernel
theorem dX9_init_13 : decode cX9_init 13 = .ok (.dup, 1) := by decide +kernel
theorem dX9_init_14 : decode cX9_init 14 = .ok (.sipush 300, 3) := by decide +kernel
theorem dX9_init_17 : decode cX9_init 17 = .ok (.invokespecial 17, 3) := by decide +kernel
theorem dX9_init_20 : decode cX9_init 20 = .ok (.putfield 20, 3) := by decide +kernel
theorem dX9_init_23 : decode cX9_init 23 = .ok (.aload_n 0, 1) := by decide +kernel
theorem dX9_init_24 : decode cX9_init 24 = .ok (.new 15, 3) := by decide +kernel
theorem dX9_init_27 : decode cX9_init 27 = .ok (.dup, 1) := by decide +kernel
theorem dX9_init_28 : decode cX9_init 28 = .ok (.sipush 300, 3) := by decide +kernel
theorem dX9_init_31 : decode cX9_init 31 = .ok (.invokespecial 17, 3) := by decide +kernel
theorem dX9_init_34 : decode cX9_init 34 = .ok (.putfield 24, 3) := by decide +kernel
theorem dX9_init_37 : decode cX9_init 37 = .ok (.aload_n 0, 1) := by decide +kernel
theorem dX9_init_38 : decode cX9_init 38 = .ok (.new 27, 3) := by decide +kernel
theorem dX9_init_41 : decode cX9_init 41 = .ok (.dup, 1) := by decide +kernel
theorem dX9_init_42 : decode cX9_init 42 = .ok (.invokespecial 29, 3) := by decide +kernel
theorem dX9_init_45 : decode cX9_init 45 = .ok (.putfield 30, 3) := by decide +kernel
theorem dX9_init_48 : decode cX9_init 48 = .ok (.aload_n 0, 1) := by decide +kernel
theorem dX9_init_49 : decode cX9_init 49 = .ok (.new 27, 3) := by decide +kernel
theorem dX9_init_52 : decode cX9_init 52 = .ok (.dup, 1) := by decide +kernel
theorem dX9_init_53 : decode cX9_init 53 = .ok (.invokespecial 29, 3) := by decide +kernel
theorem dX9_init_56 : decode cX9_init 56 = .ok (.putfield 34, 3) := by decide +kernel
theorem dX9_init_59 : decode cX9_init 59 = .ok (.aload_n 0, 1) := by decide +kernel
theorem dX9_init_60 : decode cX9_init 60 = .ok (.sipush 300, 3) := by decide +kernel
theorem dX9_init_63 : decode cX9_init 63 = .ok (.newarray .int, 2) := by decide +kernel
theorem dX9_init_65 : decode cX9_init 65 = .ok (.putfield 37, 3) := by decide +kernel
theorem dX9_init_68 : decode cX9_init 68 = .ok (.aload_n 0, 1) := by decide +kernel
theorem dX9_init_69 : decode cX9_init 69 = .ok (.bipush 123, 2) := by decide +kernel
theorem dX9_init_71 : decode cX9_init 71 = .ok (.newarray .int, 2) := by decide +kernel
theorem dX9_init_73 : decode cX9_init 73 = .ok (.putfield 41, 3) := by decide +kernel
theorem dX9_init_76 : decode cX9_init 76 = .ok (.aload_n 0, 1) := by decide +kernel
theorem dX9_init_77 : decode cX9_init 77 = .ok (.bipush 41, 2) := by decide +kernel
theorem dX9_init_79 : decode cX9_init 79 = .ok (.newarray .int, 2) := by decide +kernel
theorem dX9_init_81 : decode cX9_init 81 = .ok (.putfield 44, 3) := by decide +kernel
theorem dX9_init_84 : decode cX9_init 84 = .ok (.aload_n 0, 1) := by decide +kernel
theorem dX9_init_85 : decode cX9_init 85 = .ok (.bipush 41, 2) := by decide +kernel
theorem dX9_init_87 : decode cX9_init 87 = .ok (.newarray .int, 2) := by decide +kernel
theorem dX9_init_89 : decode cX9_init 89 = .ok (.putfield 47, 3) := by decide +kernel
theorem dX9_init_92 : decode cX9_init 92 = .ok (.return_, 1) := by decide +kernel
theorem dX9_isSize_0 : decode cX9_isSize 0 = .ok (.getstatic 50, 3) := by decide +kernel
theorem dX9_isSize_3 : decode cX9_isSize 3 = .ok (.astore_n 1, 1) := by decide +kernel
theorem dX9_isSize_4 : decode cX9_isSize 4 = .ok (.aload_n 1, 1) := by decide +kernel
theorem dX9_isSize_5 : decode cX9_isSize 5 = .ok (.arraylength, 1) := by decide +kernel
theorem dX9_isSize_6 : decode cX9_isSize 6 = .ok (.istore_n 2, 1) := by decide +kernel
theorem dX9_isSize_7 : decode cX9_isSize 7 = .ok (.iconst 0, 1) := by decide +kernel
theorem dX9_isSize_8 : decode cX9_isSize 8 = .ok (.istore_n 3, 1) := by decide +kernel
theorem dX9_isSize_9 : decode cX9_isSize 9 = .ok (.iload_n 3, 1) := by decide +kernel
theorem dX9_isSize_10 : decode cX9_isSize 10 = .ok (.iload_n 2, 1) := by decide +kernel
theorem dX9_isSize_11 : decode cX9_isSize 11 = .ok (.if_icmp .ge 22, 3) := by decide +kernel
theorem dX9_isSize_14 : decode cX9_isSize 14 = .ok (.aload_n 1, 1) := by decide +kernel
theorem dX9_isSize_15 : decode cX9_isSize 15 = .ok (.iload_n 3, 1) := by decide +kernel
theorem dX9_isSize_16 : decode cX9_isSize 16 = .ok (.iaload, 1) := by decide +kernel
theorem dX9_isSize_17 : decode cX9_isSize 17 = .ok (.istore 4, 2) := by decide +kernel
theorem dX9_isSize_19 : decode cX9_isSize 19 = .ok (.iload 4, 2) := by decide +kernel
theorem dX9_isSize_21 : decode cX9_isSize 21 = .ok (.iload_n 0, 1) := by decide +kernel
theorem dX9_isSize_22 : decode cX9_isSize 22 = .ok (.if_icmp .ne 5, 3) := by decide +kernel
theorem dX9_isSize_25 : decode cX9_isSize 25 = .ok (.iconst 1, 1) := by decide +kernel
theorem dX9_isSize_26 : decode cX9_isSize 26 = .ok (.ireturn, 1) := by decide +kernel
theorem dX9_isSize_27 : decode cX9_isSize 27 = .ok (.iinc 3 1, 3) := by decide +kernel
theorem dX9_isSize_30 : decode cX9_isSize 30 = .ok (.goto (-21), 3) := by decide +kernel
theorem dX9_isSize_33 : decode cX9_isSize 33 = .ok (.iconst 0, 1) := by decide +kernel
theorem dX9_isSize_34 : decode cX9_isSize 34 = .ok (.ireturn, 1) := by decide +kernel
theorem dX9_isNumber_0 : decode cX9_isNumber 0 = .ok (.iload_n 1, 1) := by decide +kernel
theorem dX9_isNumber_1 : decode cX9_isNumber 1 = .ok (.ifCond .lt 15, 3) := by decide +kernel
theorem dX9_isNumber_4 : decode cX9_isNumber 4 = .ok (.iload_n 1, 1) := by decide +kernel
theorem dX9_isNumber_5 : decode cX9_isNumber 5 = .ok (.aload_n 0, 1) := by decide +kernel
theorem dX9_isNumber_6 : decode cX9_isNumber 6 = .ok (.getfield 9, 3) := by decide +kernel
theorem dX9_isNumber_9 : decode cX9_isNumber 9 = .ok (.if_icmp .ge 7, 3) := by decide +kernel
theorem dX9_isNumber_12 : decode cX9_isNumber 12 = .ok (.iconst 1, 1) := by decide +kernel
theorem dX9_isNumber_13 : decode cX9_isNumber 13 = .ok (.goto 4, 3) := by decide +kernel
theorem dX9_isNumber_16 : decode cX9_isNumber 16 = .ok (.iconst 0, 1) := by decide +kernel
theorem dX9_isNumber_17 : decode cX9_isNumber 17 = .ok (.ireturn, 1) := by decide +kernel
theorem dX9_isPoint_0 : decode cX9_isPoint 0 = .ok (.aload_n 0, 1) := by decide +kernel
theorem dX9_isPoint_1 : decode cX9_isPoint 1 = .ok (.iload_n 1, 1) := by decide +kernel
theorem dX9_isPoint_2 : decode cX9_isPoint 2 = .ok (.invokevirtual 53, 3) := by decide +kernel
theorem dX9_isPoint_5 : decode cX9_isPoint 5 = .ok (.ifCond .eq 23, 3) := by decide +kernel
theorem dX9_isPoint_8 : decode cX9_isPoint 8 = .ok (.aload_n 0, 1) := by decide +kernel
theorem dX9_isPoint_9 : decode cX9_isPoint 9 = .ok (.iload_n 2, 1) := by decide +kernel
theorem dX9_isPoint_10 : decode cX9_isPoint 10 = .ok (.invokevirtual 53, 3) := by decide +kernel
theorem dX9_isPoint_13 : decode cX9_isPoint 13 = .ok (.ifCond .eq 15, 3) := by decide +kernel
theorem dX9_isPoint_16 : decode cX9_isPoint 16 = .ok (.aload_n 0, 1) := by decide +kernel
theorem dX9_isPoint_17 : decode cX9_isPoint 17 = .ok (.iload_n 3, 1) := by decide +kernel
theorem dX9_isPoint_18 : decode cX9_isPoint 18 = .ok (.invokevirtual 53, 3) := by decide +kernel
theorem dX9_isPoint_21 : decode cX9_isPoint 21 = .ok (.ifCond .eq 7, 3) := by decide +kernel
theorem dX9_isPoint_24 : decode cX9_isPoint 24 = .ok (.iconst 1, 1) := by decide +kernel
theorem dX9_isPoint_25 : decode cX9_isPoint 25 = .ok (.goto 4, 3) := by decide +kernel
theorem dX9_isPoint_28 : decode cX9_isPoint 28 = .ok (.iconst 0, 1) := by decide +kernel
theorem dX9_isPoint_29 : decode cX9_isPoint 29 = .ok (.ireturn, 1) := by decide +kernel
theorem dX9_isLine_0 : decode cX9_isLine 0 = .ok (.aload_n 0, 1) := by decide +kernel
theorem dX9_isLine_1 : decode cX9_isLine 1 = .ok (.iload_n 1, 1) := by decide +kernel
theorem dX9_isLine_2 : decode cX9_isLine 2 = .ok (.invokevirtual 53, 3) := by decide +kernel
theorem dX9_isLine_5 : decode cX9_isLine 5 = .ok (.ifCond .eq 28, 3) := by decide +kernel
theorem dX9_isLine_8 : decode cX9_isLine 8 = .ok (.aload_n 0, 1) := by decide +kernel
theorem dX9_isLine_9 : decode cX9_isLine 9 = .ok (.iload_n 2, 1) := by decide +kernel
theorem dX9_isLine_10 : decode cX9_isLine 10 = .ok (.invokevirtual 53, 3) := by decide +kernel
theorem dX9_isLine_13 : decode cX9_isLine 13 = .ok (.ifCond .eq 20, 3) := by decide +kernel
theorem dX9_isLine_16 : decode cX9_isLine 16 = .ok (.aload_n 0, 1) := by decide +kernel
theorem dX9_isLine_17 : decode cX9_isLine 17 = .ok (.iload_n 3, 1) := by decide +kernel
theorem dX9_isLine_18 : decode cX9_isLine 18 = .ok (.invokevirtual 53, 3) := by decide +kernel
theorem dX9_isLine_21 : decode cX9_isLine 21 = .ok (.ifCond .eq 12, 3) := by decide +kernel
theorem dX9_isLine_24 : decode cX9_isLine 24 = .ok (.aload_n 0, 1) := by decide +kernel
theorem dX9_isLine_25 : decode cX9_isLine 25 = .ok (.iload 4, 2) := by decide +kernel
theorem dX9_isLine_27 : decode cX9_isLine 27 = .ok (.invokevirtual 53, 3) := by decide +kernel
theorem dX9_isLine_30 : decode cX9_isLine 30 = .ok (.ifCond .ne 5, 3) := by decide +kernel
theorem dX9_isLine_33 : decode cX9_isLine 33 = .ok (.iconst 0, 1) := by decide +kernel
theorem dX9_isLine_34 : decode cX9_isLine 34 = .ok (.ireturn, 1) := by decide +kernel
theorem dX9_isLine_35 : decode cX9_isLine 35 = .ok (.iload_n 1, 1) := by decide +kernel
theorem dX9_isLine_36 : decode cX9_isLine 36 = .ok (.iconst 1, 1) := by decide +kernel
theorem dX9_isLine_37 : decode cX9_isLine 37 = .ok (.if_icmp .eq 21, 3) := by decide +kernel
theorem dX9_isLine_40 : decode cX9_isLine 40 = .ok (.iload_n 1, 1) := by decide +kernel
theorem dX9_isLine_41 : decode cX9_isLine 41 = .ok (.ifCond .ne 21, 3) := by decide +kernel
theorem dX9_isLine_44 : decode cX9_isLine 44 = .ok (.iload_n 2, 1) := by decide +kernel
theorem dX9_isLine_45 : decode cX9_isLine 45 = .ok (.iconst 1, 1) := by decide +kernel
theorem dX9_isLine_46 : decode cX9_isLine 46 = .ok (.if_icmp .eq 12, 3) := by decide +kernel
theorem dX9_isLine_49 : decode cX9_isLine 49 = .ok (.iload_n 2, 1) := by decide +kernel
theorem dX9_isLine_50 : decode cX9_isLine 50 = .ok (.ifCond .ne 12, 3) := by decide +kernel
theorem dX9_isLine_53 : decode cX9_isLine 53 = .ok (.iload_n 3, 1) := by decide +kernel
theorem dX9_isLine_54 : decode cX9_isLine 54 = .ok (.iconst 1, 1) := by decide +kernel
theorem dX9_isLine_55 : decode cX9_isLine 55 = .ok (.if_icmp .ne 7, 3) := by decide +kernel
theorem dX9_isLine_58 : decode cX9_isLine 58 = .ok (.iconst 1, 1) := by decide +kernel
theorem dX9_isLine_59 : decode cX9_isLine 59 = .ok (.goto 4, 3) := by decide +kernel
theorem dX9_isLine_62 : decode cX9_isLine 62 = .ok (.iconst 0, 1) := by decide +kernel
theorem dX9_isLine_63 : decode cX9_isLine 63 = .ok (.ireturn, 1) := by decide +kernel
theorem dX9_sum_0 : decode cX9_sum 0 = .ok (.aload_n 0, 1) := by decide +kernel
theorem dX9_sum_1 : decode cX9_sum 1 = .ok (.getfield 20, 3) := by decide +kernel
theorem dX9_sum_4 : decode cX9_sum 4 = .ok (.invokevirtual 57, 3) := by decide +kernel
theorem dX9_sum_7 : decode cX9_sum 7 = .ok (.iconst 0, 1) := by decide +kernel
theorem dX9_sum_8 : decode cX9_sum 8 = .ok (.istore 4, 2) := by decide +kernel
theorem dX9_sum_10 : decode cX9_sum 10 = .ok (.iconst 0, 1) := by decide +kernel
theorem dX9_sum_11 : decode cX9_sum 11 = .ok (.istore 5, 2) := by decide +kernel
theorem dX9_sum_13 : decode cX9_sum 13 = .ok (.iload 5, 2) := by decide +kernel
theorem dX9_sum_15 : decode cX9_sum 15 = .ok (.aload_n 1, 1) := by decide +kernel
theorem dX9_sum_16 : decode cX9_sum 16 = .ok (.getfield 60, 3) := by decide +kernel
theorem dX9_sum_19 : decode cX9_sum 19 = .ok (.if_icmp .ge 142, 3) := by decide +kernel
theorem dX9_sum_22 : decode cX9_sum 22 = .ok (.iload 4, 2) := by decide +kernel
theorem dX9_sum_24 : decode cX9_sum 24 = .ok (.aload_n 2, 1) := by decide +kernel
theorem dX9_sum_25 : decode cX9_sum 25 = .ok (.getfield 60, 3) := by decide +kernel
theorem dX9_sum_28 : decode cX9_sum 28 = .ok (.if_icmp .ge 54, 3) := by decide +kernel
theorem dX9_sum_31 : decode cX9_sum 31 = .ok (.aload_n 2, 1) := by decide +kernel
theorem dX9_sum_32 : decode cX9_sum 32 = .ok (.getfield 63, 3) := by decide +kernel
theorem dX9_sum_35 : decode cX9_sum 35 = .ok (.iload 4, 2) := by decide +kernel
theorem dX9_sum_37 : decode cX9_sum 37 = .ok (.iaload, 1) := by decide +kernel
theorem dX9_sum_38 : decode cX9_sum 38 = .ok (.aload_n 1, 1) := by decide +kernel
theorem dX9_sum_39 : decode cX9_sum 39 = .ok (.getfield 63, 3) := by decide +kernel
theorem dX9_sum_42 : decode cX9_sum 42 = .ok (.iload 5, 2) := by decide +kernel
theorem dX9_sum_44 : decode cX9_sum 44 = .ok (.iaload, 1) := by decide +kernel
theorem dX9_sum_45 : decode cX9_sum 45 = .ok (.if_icmp .le 37, 3) := by decide +kernel
theorem dX9_sum_48 : decode cX9_sum 48 = .ok (.aload_n 0, 1) := by decide +kernel
theorem dX9_sum_49 : decode cX9_sum 49 = .ok (.getfield 20, 3) := by decide +kernel
theorem dX9_sum_52 : decode cX9_sum 52 = .ok (.aload_n 2, 1) := by decide +kernel
theorem dX9_sum_53 : decode cX9_sum 53 = .ok (.getfield 63, 3) := by decide +kernel
theorem dX9_sum_56 : decode cX9_sum 56 = .ok (.iload 4, 2) := by decide +kernel
theorem dX9_sum_58 : decode cX9_sum 58 = .ok (.iaload, 1) := by decide +kernel
theorem dX9_sum_59 : decode cX9_sum 59 = .ok (.iload_n 3, 1) := by decide +kernel
theorem dX9_sum_60 : decode cX9_sum 60 = .ok (.aload_n 2, 1) := by decide +kernel
theorem dX9_sum_61 : decode cX9_sum 61 = .ok (.getfield 66, 3) := by decide +kernel
theorem dX9_sum_64 : decode cX9_sum 64 = .ok (.iload 4, 2) := by decide +kernel
theorem dX9_sum_66 : decode cX9_sum 66 = .ok (.iaload, 1) := by decide +kernel
theorem dX9_sum_67 : decode cX9_sum 67 = .ok (.imul, 1) := by decide +kernel
theorem dX9_sum_68 : decode cX9_sum 68 = .ok (.aload_n 0, 1) := by decide +kernel
theorem dX9_sum_69 : decode cX9_sum 69 = .ok (.getfield 9, 3) := by decide +kernel
theorem dX9_sum_72 : decode cX9_sum 72 = .ok (.irem, 1) := by decide +kernel
theorem dX9_sum_73 : decode cX9_sum 73 = .ok (.invokevirtual 69, 3) := by decide +kernel
theorem dX9_sum_76 : decode cX9_sum 76 = .ok (.iinc 4 1, 3) := by decide +kernel
theorem dX9_sum_79 : decode cX9_sum 79 = .ok (.goto (-57), 3) := by decide +kernel
theorem dX9_sum_82 : decode cX9_sum 82 = .ok (.aload_n 1, 1) := by decide +kernel
theorem dX9_sum_83 : decode cX9_sum 83 = .ok (.getfield 66, 3) := by decide +kernel
theorem dX9_sum_86 : decode cX9_sum 86 = .ok (.iload 5, 2) := by decide +kernel
theorem dX9_sum_88 : decode cX9_sum 88 = .ok (.iaload, 1) := by decide +kernel
theorem dX9_sum_89 : decode cX9_sum 89 = .ok (.istore 6, 2) := by decide +kernel
theorem dX9_sum_91 : decode cX9_sum 91 = .ok (.iload 4, 2) := by decide +kernel
theorem dX9_sum_93 : decode cX9_sum 93 = .ok (.aload_n 2, 1) := by decide +kernel
theorem dX9_sum_94 : decode cX9_sum 94 = .ok (.getfield 60, 3) := by decide +kernel
theorem dX9_sum_97 : decode cX9_sum 97 = .ok (.if_icmp .ge 37, 3) := by decide +kernel
theorem dX9_sum_100 : decode cX9_sum 100 = .ok (.aload_n 2, 1) := by decide +kernel
theorem dX9_sum_101 : decode cX9_sum 101 = .ok (.getfield 63, 3) := by decide +kernel
theorem dX9_sum_104 : decode cX9_sum 104 = .ok (.iload 4, 2) := by decide +kernel
theorem dX9_sum_106 : decode cX9_sum 106 = .ok (.iaload, 1) := by decide +kernel
theorem dX9_sum_107 : decode cX9_sum 107 = .ok (.aload_n 1, 1) := by decide +kernel
theorem dX9_sum_108 : decode cX9_sum 108 = .ok (.getfield 63, 3) := by decide +kernel
theorem dX9_sum_111 : decode cX9_sum 111 = .ok (.iload 5, 2) := by decide +kernel
theorem dX9_sum_113 : decode cX9_sum 113 = .ok (.iaload, 1) := by decide +kernel
theorem dX9_sum_114 : decode cX9_sum 114 = .ok (.if_icmp .ne 20, 3) := by decide +kernel
theorem dX9_sum_117 : decode cX9_sum 117 = .ok (.iload 6, 2) := by decide +kernel
theorem dX9_sum_119 : decode cX9_sum 119 = .ok (.iload_n 3, 1) := by decide +kernel
theorem dX9_sum_120 : decode cX9_sum 120 = .ok (.aload_n 2, 1) := by decide +kernel
theorem dX9_sum_121 : decode cX9_sum 121 = .ok (.getfield 66, 3) := by decide +kernel
theorem dX9_sum_124 : decode cX9_sum 124 = .ok (.iload 4, 2) := by decide +kernel
theorem dX9_sum_126 : decode cX9_sum 126 = .ok (.iaload, 1) := by decide +kernel
theorem dX9_sum_127 : decode cX9_sum 127 = .ok (.imul, 1) := by decide +kernel
theorem dX9_sum_128 : decode cX9_sum 128 = .ok (.iadd, 1) := by decide +kernel
theorem dX9_sum_129 : decode cX9_sum 129 = .ok (.istore 6, 2) := by decide +kernel
theorem dX9_sum_131 : decode cX9_sum 131 = .ok (.iinc 4 1, 3) := by decide +kernel
theorem dX9_sum_134 : decode cX9_sum 134 = .ok (.aload_n 0, 1) := by decide +kernel
theorem dX9_sum_135 : decode cX9_sum 135 = .ok (.getfield 20, 3) := by decide +kernel
theorem dX9_sum_138 : decode cX9_sum 138 = .ok (.aload_n 1, 1) := by decide +kernel
theorem dX9_sum_139 : decode cX9_sum 139 = .ok (.getfield 63, 3) := by decide +kernel
theorem dX9_sum_142 : decode cX9_sum 142 = .ok (.iload 5, 2) := by decide +kernel
theorem dX9_sum_144 : decode cX9_sum 144 = .ok (.iaload, 1) := by decide +kernel
theorem dX9_sum_145 : decode cX9_sum 145 = .ok (.iload 6, 2) := by decide +kernel
theorem dX9_sum_147 : decode cX9_sum 147 = .ok (.aload_n 0, 1) := by decide +kernel
theorem dX9_sum_148 : decode cX9_sum 148 = .ok (.getfield 9, 3) := by decide +kernel
theorem dX9_sum_151 : decode cX9_sum 151 = .ok (.irem, 1) := by decide +kernel
theorem dX9_sum_152 : decode cX9_sum 152 = .ok (.invokevirtual 69, 3) := by decide +kernel
theorem dX9_sum_155 : decode cX9_sum 155 = .ok (.iinc 5 1, 3) := by decide +kernel
theorem dX9_sum_158 : decode cX9_sum 158 = .ok (.goto (-145), 3) := by decide +kernel
theorem dX9_sum_161 : decode cX9_sum 161 = .ok (.iload 4, 2) := by decide +kernel
theorem dX9_sum_163 : decode cX9_sum 163 = .ok (.aload_n 2, 1) := by decide +kernel
theorem dX9_sum_164 : decode cX9_sum 164 = .ok (.getfield 60, 3) := by decide +kernel
theorem dX9_sum_167 : decode cX9_sum 167 = .ok (.if_icmp .ge 37, 3) := by decide +kernel
theorem dX9_sum_170 : decode cX9_sum 170 = .ok (.aload_n 0, 1) := by decide +kernel
theorem dX9_sum_171 : decode cX9_sum 171 = .ok (.getfield 20, 3) := by decide +kernel
theorem dX9_sum_174 : decode cX9_sum 174 = .ok (.aload_n 2, 1) := by decide +kernel
theorem dX9_sum_175 : decode cX9_sum 175 = .ok (.getfield 63, 3) := by decide +kernel
theorem dX9_sum_178 : decode cX9_sum 178 = .ok (.iload 4, 2) := by decide +kernel
theorem dX9_sum_180 : decode cX9_sum 180 = .ok (.iaload, 1) := by decide +kernel
theorem dX9_sum_181 : decode cX9_sum 181 = .ok (.iload_n 3, 1) := by decide +kernel
theorem dX9_sum_182 : decode cX9_sum 182 = .ok (.aload_n 2, 1) := by decide +kernel
theorem dX9_sum_183 : decode cX9_sum 183 = .ok (.getfield 66, 3) := by decide +kernel
theorem dX9_sum_186 : decode cX9_sum 186 = .ok (.iload 4, 2) := by decide +kernel
theorem dX9_sum_188 : decode cX9_sum 188 = .ok (.iaload, 1) := by decide +kernel
theorem dX9_sum_189 : decode cX9_sum 189 = .ok (.imul, 1) := by decide +kernel
theorem dX9_sum_190 : decode cX9_sum 190 = .ok (.aload_n 0, 1) := by decide +kernel
theorem dX9_sum_191 : decode cX9_sum 191 = .ok (.getfield 9, 3) := by decide +kernel
theorem dX9_sum_194 : decode cX9_sum 194 = .ok (.irem, 1) := by decide +kernel
theorem dX9_sum_195 : decode cX9_sum 195 = .ok (.invokevirtual 69, 3) := by decide +kernel
theorem dX9_sum_198 : decode cX9_sum 198 = .ok (.iinc 4 1, 3) := by decide +kernel
theorem dX9_sum_201 : decode cX9_sum 201 = .ok (.goto (-40), 3) := by decide +kernel
theorem dX9_sum_204 : decode cX9_sum 204 = .ok (.aload_n 0, 1) := by decide +kernel
theorem dX9_sum_205 : decode cX9_sum 205 = .ok (.getfield 20, 3) := by decide +kernel
theorem dX9_sum_208 : decode cX9_sum 208 = .ok (.invokevirtual 73, 3) := by decide +kernel
theorem dX9_sum_211 : decode cX9_sum 211 = .ok (.areturn, 1) := by decide +kernel
theorem dX9_product_0 : decode cX9_product 0 = .ok (.aload_n 0, 1) := by decide +kernel
theorem dX9_product_1 : decode cX9_product 1 = .ok (.aload_n 1, 1) := by decide +kernel
theorem dX9_product_2 : decode cX9_product 2 = .ok (.aload_n 2, 1) := by decide +kernel
theorem dX9_product_3 : decode cX9_product 3 = .ok (.aload_n 0, 1) := by decide +kernel
theorem dX9_product_4 : decode cX9_product 4 = .ok (.getfield 20, 3) := by decide +kernel
theorem dX9_product_7 : decode cX9_product 7 = .ok (.invokevirtual 77, 3) := by decide +kernel
theorem dX9_product_10 : decode cX9_product 10 = .ok (.ifCond .eq 13, 3) := by decide +kernel
theorem dX9_product_13 : decode cX9_product 13 = .ok (.aload_n 0, 1) := by decide +kernel
theorem dX9_product_14 : decode cX9_product 14 = .ok (.getfield 20, 3) := by decide +kernel
theorem dX9_product_17 : decode cX9_product 17 = .ok (.invokevirtual 73, 3) := by decide +kernel
theorem dX9_product_20 : decode cX9_product 20 = .ok (.goto 4, 3) := by decide +kernel
theorem dX9_product_23 : decode cX9_product 23 = .ok (.aconst_null, 1) := by decide +kernel
theorem dX9_product_24 : decode cX9_product 24 = .ok (.areturn, 1) := by decide +kernel
theorem dX9_power_0 : decode cX9_power 0 = .ok (.aload_n 0, 1) := by decide +kernel
theorem dX9_power_1 : decode cX9_power 1 = .ok (.getfield 20, 3) := by decide +kernel
theorem dX9_power_4 : decode cX9_power 4 = .ok (.invokevirtual 57, 3) := by decide +kernel
theorem dX9_power_7 : decode cX9_power 7 = .ok (.aload_n 0, 1) := by decide +kernel
theorem dX9_power_8 : decode cX9_power 8 = .ok (.getfield 20, 3) := by decide +kernel
theorem dX9_power_11 : decode cX9_power 11 = .ok (.iconst 0, 1) := by decide +kernel
theorem dX9_power_12 : decode cX9_power 12 = .ok (.iconst 1, 1) := by decide +kernel
theorem dX9_power_13 : decode cX9_power 13 = .ok (.invokevirtual 69, 3) := by decide +kernel
theorem dX9_power_16 : decode cX9_power 16 = .ok (.iconst 1, 1) := by decide +kernel
theorem dX9_power_17 : decode cX9_power 17 = .ok (.istore_n 3, 1) := by decide +kernel
theorem dX9_power_18 : decode cX9_power 18 = .ok (.iload_n 3, 1) := by decide +kernel
theorem dX9_power_19 : decode cX9_power 19 = .ok (.iload_n 2, 1) := by decide +kernel
theorem dX9_power_20 : decode cX9_power 20 = .ok (.if_icmp .gt 27, 3) := by decide +kernel
theorem dX9_power_23 : decode cX9_power 23 = .ok (.aload_n 0, 1) := by decide +kernel
theorem dX9_power_24 : decode cX9_power 24 = .ok (.aload_n 0, 1) := by decide +kernel
theorem dX9_power_25 : decode cX9_power 25 = .ok (.getfield 20, 3) := by decide +kernel
theorem dX9_power_28 : decode cX9_power 28 = .ok (.aload_n 1, 1) := by decide +kernel
theorem dX9_power_29 : decode cX9_power 29 = .ok (.aload_n 0, 1) := by decide +kernel
theorem dX9_power_30 : decode cX9_power 30 = .ok (.getfield 20, 3) := by decide +kernel
theorem dX9_power_33 : decode cX9_power 33 = .ok (.invokevirtual 77, 3) := by decide +kernel
theorem dX9_power_36 : decode cX9_power 36 = .ok (.ifCond .ne 5, 3) := by decide +kernel
theorem dX9_power_39 : decode cX9_power 39 = .ok (.aconst_null, 1) := by decide +kernel
theorem dX9_power_40 : decode cX9_power 40 = .ok (.areturn, 1) := by decide +kernel
theorem dX9_power_41 : decode cX9_power 41 = .ok (.iinc 3 1, 3) := by decide +kernel
theorem dX9_power_44 : decode cX9_power 44 = .ok (.goto (-26), 3) := by decide +kernel
theorem dX9_power_47 : decode cX9_power 47 = .ok (.aload_n 0, 1) := by decide +kernel
theorem dX9_power_48 : decode cX9_power 48 = .ok (.getfield 20, 3) := by decide +kernel
theorem dX9_power_51 : decode cX9_power 51 = .ok (.invokevirtual 73, 3) := by decide +kernel
theorem dX9_power_54 : decode cX9_power 54 = .ok (.areturn, 1) := by decide +kernel
theorem dX9_multiply_0 : decode cX9_multiply 0 = .ok (.aload_n 1, 1) := by decide +kernel
theorem dX9_multiply_1 : decode cX9_multiply 1 = .ok (.getfield 60, 3) := by decide +kernel
theorem dX9_multiply_4 : decode cX9_multiply 4 = .ok (.ifCond .eq 10, 3) := by decide +kernel
