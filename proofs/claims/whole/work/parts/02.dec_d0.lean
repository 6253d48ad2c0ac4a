theorem dX11_init_0 : decode cX11_init 0 = .ok (.aload_n 0, 1) := by decide +kernel
theorem dX11_init_1 : decode cX11_init 1 = .ok (.invokespecial 3, 3) := by decide +kernel
theorem dX11_init_4 : decode cX11_init 4 = .ok (.aload_n 0, 1) := by decide +kernel
theorem dX11_init_5 : decode cX11_init 5 = .ok (.new 9, 3) := by decide +kernel
theorem dX11_init_8 : decode cX11_init 8 = .ok (.dup, 1) := by decide +kernel
theorem dX11_init_9 : decode cX11_init 9 = .ok (.iconst 0, 1) := by decide +kernel
theorem dX11_init_10 : decode cX11_init 10 = .ok (.invokespecial 11, 3) := by decide +kernel
theorem dX11_init_13 : decode cX11_init 13 = .ok (.putfield 14, 3) := by decide +kernel
theorem dX11_init_16 : decode cX11_init 16 = .ok (.aload_n 0, 1) := by decide +kernel
theorem dX11_init_17 : decode cX11_init 17 = .ok (.bipush 6, 2) := by decide +kernel
theorem dX11_init_19 : decode cX11_init 19 = .ok (.anewarray 9, 3) := by decide +kernel
theorem dX11_init_22 : decode cX11_init 22 = .ok (.putfield 18, 3) := by decide +kernel
theorem dX11_init_25 : decode cX11_init 25 = .ok (.aload_n 0, 1) := by decide +kernel
theorem dX11_init_26 : decode cX11_init 26 = .ok (.new 22, 3) := by decide +kernel
theorem dX11_init_29 : decode cX11_init 29 = .ok (.dup, 1) := by decide +kernel
theorem dX11_init_30 : decode cX11_init 30 = .ok (.invokespecial 24, 3) := by decide +kernel
theorem dX11_init_33 : decode cX11_init 33 = .ok (.putfield 25, 3) := by decide +kernel
theorem dX11_init_36 : decode cX11_init 36 = .ok (.aload_n 0, 1) := by decide +kernel
theorem dX11_init_37 : decode cX11_init 37 = .ok (.new 29, 3) := by decide +kernel
theorem dX11_init_40 : decode cX11_init 40 = .ok (.dup, 1) := by decide +kernel
theorem dX11_init_41 : decode cX11_init 41 = .ok (.invokespecial 31, 3) := by decide +kernel
theorem dX11_init_44 : decode cX11_init 44 = .ok (.putfield 32, 3) := by decide +kernel
theorem dX11_init_47 : decode cX11_init 47 = .ok (.aload_n 0, 1) := by decide +kernel
theorem dX11_init_48 : decode cX11_init 48 = .ok (.new 36, 3) := by decide +kernel
theorem dX11_init_51 : decode cX11_init 51 = .ok (.dup, 1) := by decide +kernel
theorem dX11_init_52 : decode cX11_init 52 = .ok (.invokespecial 38, 3) := by decide +kernel
theorem dX11_init_55 : decode cX11_init 55 = .ok (.putfield 39, 3) := by decide +kernel
theorem dX11_init_58 : decode cX11_init 58 = .ok (.aload_n 0, 1) := by decide +kernel
theorem dX11_init_59 : decode cX11_init 59 = .ok (.new 43, 3) := by decide +kernel
theorem dX11_init_62 : decode cX11_init 62 = .ok (.dup, 1) := by decide +kernel
theorem dX11_init_63 : decode cX11_init 63 = .ok (.invokespecial 45, 3) := by decide +kernel
theorem dX11_init_66 : decode cX11_init 66 = .ok (.putfield 46, 3) := by decide +kernel
theorem dX11_init_69 : decode cX11_init 69 = .ok (.aload_n 0, 1) := by decide +kernel
theorem dX11_init_70 : decode cX11_init 70 = .ok (.new 50, 3) := by decide +kernel
theorem dX11_init_73 : decode cX11_init 73 = .ok (.dup, 1) := by decide +kernel
theorem dX11_init_74 : decode cX11_init 74 = .ok (.invokespecial 52, 3) := by decide +kernel
theorem dX11_init_77 : decode cX11_init 77 = .ok (.putfield 53, 3) := by decide +kernel
theorem dX11_init_80 : decode cX11_init 80 = .ok (.aload_n 0, 1) := by decide +kernel
theorem dX11_init_81 : decode cX11_init 81 = .ok (.new 57, 3) := by decide +kernel
theorem dX11_init_84 : decode cX11_init 84 = .ok (.dup, 1) := by decide +kernel
theorem dX11_init_85 : decode cX11_init 85 = .ok (.invokespecial 59, 3) := by decide +kernel
theorem dX11_init_88 : decode cX11_init 88 = .ok (.putfield 60, 3) := by decide +kernel
theorem dX11_init_91 : decode cX11_init 91 = .ok (.aload_n 0, 1) := by decide +kernel
theorem dX11_init_92 : decode cX11_init 92 = .ok (.sipush 200, 3) := by decide +kernel
theorem dX11_init_95 : decode cX11_init 95 = .ok (.newarray .int, 2) := by decide +kernel
theorem dX11_init_97 : decode cX11_init 97 = .ok (.putfield 64, 3) := by decide +kernel
theorem dX11_init_100 : decode cX11_init 100 = .ok (.aload_n 0, 1) := by decide +kernel
theorem dX11_init_101 : decode cX11_init 101 = .ok (.iconst 0, 1) := by decide +kernel
theorem dX11_init_102 : decode cX11_init 102 = .ok (.putfield 68, 3) := by decide +kernel
theorem dX11_init_105 : decode cX11_init 105 = .ok (.aload_n 0, 1) := by decide +kernel
theorem dX11_init_106 : decode cX11_init 106 = .ok (.iconst (-1), 1) := by decide +kernel
theorem dX11_init_107 : decode cX11_init 107 = .ok (.putfield 72, 3) := by decide +kernel
theorem dX11_init_110 : decode cX11_init 110 = .ok (.aload_n 0, 1) := by decide +kernel
theorem dX11_init_111 : decode cX11_init 111 = .ok (.aconst_null, 1) := by decide +kernel
theorem dX11_init_112 : decode cX11_init 112 = .ok (.putfield 75, 3) := by decide +kernel
theorem dX11_init_115 : decode cX11_init 115 = .ok (.iconst 0, 1) := by decide +kernel
theorem dX11_init_116 : decode cX11_init 116 = .ok (.istore_n 1, 1) := by decide +kernel
theorem dX11_init_117 : decode cX11_init 117 = .ok (.iload_n 1, 1) := by decide +kernel
theorem dX11_init_118 : decode cX11_init 118 = .ok (.bipush 6, 2) := by decide +kernel
theorem dX11_init_120 : decode cX11_init 120 = .ok (.if_icmp .ge 19, 3) := by decide +kernel
theorem dX11_init_123 : decode cX11_init 123 = .ok (.aload_n 0, 1) := by decide +kernel
theorem dX11_init_124 : decode cX11_init 124 = .ok (.getfield 18, 3) := by decide +kernel
theorem dX11_init_127 : decode cX11_init 127 = .ok (.iload_n 1, 1) := by decide +kernel
theorem dX11_init_128 : decode cX11_init 128 = .ok (.aload_n 0, 1) := by decide +kernel
theorem dX11_init_129 : decode cX11_init 129 = .ok (.getfield 14, 3) := by decide +kernel
theorem dX11_init_132 : decode cX11_init 132 = .ok (.aastore, 1) := by decide +kernel
theorem dX11_init_133 : decode cX11_init 133 = .ok (.iinc 1 1, 3) := by decide +kernel
theorem dX11_init_136 : decode cX11_init 136 = .ok (.goto (-19), 3) := by decide +kernel
theorem dX11_init_139 : decode cX11_init 139 = .ok (.return_, 1) := by decide +kernel
theorem dX11_field_0 : decode cX11_field 0 = .ok (.iload_n 1, 1) := by decide +kernel
theorem dX11_field_1 : decode cX11_field 1 = .ok (.invokestatic 79, 3) := by decide +kernel
theorem dX11_field_4 : decode cX11_field 4 = .ok (.ifCond .ne 5, 3) := by decide +kernel
theorem dX11_field_7 : decode cX11_field 7 = .ok (.iconst (-1), 1) := by decide +kernel
theorem dX11_field_8 : decode cX11_field 8 = .ok (.ireturn, 1) := by decide +kernel
theorem dX11_field_9 : decode cX11_field 9 = .ok (.aload_n 0, 1) := by decide +kernel
theorem dX11_field_10 : decode cX11_field 10 = .ok (.getfield 25, 3) := by decide +kernel
theorem dX11_field_13 : decode cX11_field 13 = .ok (.getfield 83, 3) := by decide +kernel
theorem dX11_field_16 : decode cX11_field 16 = .ok (.istore_n 2, 1) := by decide +kernel
theorem dX11_field_17 : decode cX11_field 17 = .ok (.aload_n 0, 1) := by decide +kernel
theorem dX11_field_18 : decode cX11_field 18 = .ok (.getfield 25, 3) := by decide +kernel
theorem dX11_field_21 : decode cX11_field 21 = .ok (.iload_n 1, 1) := by decide +kernel
theorem dX11_field_22 : decode cX11_field 22 = .ok (.putfield 83, 3) := by decide +kernel
theorem dX11_field_25 : decode cX11_field 25 = .ok (.iconst 0, 1) := by decide +kernel
theorem dX11_field_26 : decode cX11_field 26 = .ok (.istore_n 3, 1) := by decide +kernel
theorem dX11_field_27 : decode cX11_field 27 = .ok (.iload_n 3, 1) := by decide +kernel
theorem dX11_field_28 : decode cX11_field 28 = .ok (.bipush 6, 2) := by decide +kernel
theorem dX11_field_30 : decode cX11_field 30 = .ok (.if_icmp .ge 19, 3) := by decide +kernel
theorem dX11_field_33 : decode cX11_field 33 = .ok (.aload_n 0, 1) := by decide +kernel
theorem dX11_field_34 : decode cX11_field 34 = .ok (.getfield 18, 3) := by decide +kernel
theorem dX11_field_37 : decode cX11_field 37 = .ok (.iload_n 3, 1) := by decide +kernel
theorem dX11_field_38 : decode cX11_field 38 = .ok (.aload_n 0, 1) := by decide +kernel
theorem dX11_field_39 : decode cX11_field 39 = .ok (.getfield 14, 3) := by decide +kernel
theorem dX11_field_42 : decode cX11_field 42 = .ok (.aastore, 1) := by decide +kernel
theorem dX11_field_43 : decode cX11_field 43 = .ok (.iinc 3 1, 3) := by decide +kernel
theorem dX11_field_46 : decode cX11_field 46 = .ok (.goto (-19), 3) := by decide +kernel
theorem dX11_field_49 : decode cX11_field 49 = .ok (.aload_n 0, 1) := by decide +kernel
theorem dX11_field_50 : decode cX11_field 50 = .ok (.aconst_null, 1) := by decide +kernel
theorem dX11_field_51 : decode cX11_field 51 = .ok (.putfield 75, 3) := by decide +kernel
theorem dX11_field_54 : decode cX11_field 54 = .ok (.aload_n 0, 1) := by decide +kernel
theorem dX11_field_55 : decode cX11_field 55 = .ok (.getfield 60, 3) := by decide +kernel
theorem dX11_field_58 : decode cX11_field 58 = .ok (.invokevirtual 86, 3) := by decide +kernel
theorem dX11_field_61 : decode cX11_field 61 = .ok (.aload_n 0, 1) := by decide +kernel
theorem dX11_field_62 : decode cX11_field 62 = .ok (.getfield 39, 3) := by decide +kernel
theorem dX11_field_65 : decode cX11_field 65 = .ok (.invokevirtual 89, 3) := by decide +kernel
theorem dX11_field_68 : decode cX11_field 68 = .ok (.iload_n 2, 1) := by decide +kernel
theorem dX11_field_69 : decode cX11_field 69 = .ok (.ireturn, 1) := by decide +kernel
theorem dX11_feed_0 : decode cX11_feed 0 = .ok (.aload_n 0, 1) := by decide +kernel
theorem dX11_feed_1 : decode cX11_feed 1 = .ok (.getfield 68, 3) := by decide +kernel
theorem dX11_feed_4 : decode cX11_feed 4 = .ok (.bipush 20, 2) := by decide +kernel
theorem dX11_feed_6 : decode cX11_feed 6 = .ok (.iadd, 1) := by decide +kernel
theorem dX11_feed_7 : decode cX11_feed 7 = .ok (.sipush 200, 3) := by decide +kernel
theorem dX11_feed_10 : decode cX11_feed 10 = .ok (.if_icmp .le 5, 3) := by decide +kernel
theorem dX11_feed_13 : decode cX11_feed 13 = .ok (.iconst (-1), 1) := by decide +kernel
theorem dX11_feed_14 : decode cX11_feed 14 = .ok (.ireturn, 1) := by decide +kernel
theorem dX11_feed_15 : decode cX11_feed 15 = .ok (.aload_n 0, 1) := by decide +kernel
theorem dX11_feed_16 : decode cX11_feed 16 = .ok (.iload_n 1, 1) := by decide +kernel
theorem dX11_feed_17 : decode cX11_feed 17 = .ok (.invokevirtual 90, 3) := by decide +kernel
theorem dX11_feed_20 : decode cX11_feed 20 = .ok (.aload_n 0, 1) := by decide +kernel
theorem dX11_feed_21 : decode cX11_feed 21 = .ok (.iload_n 2, 1) := by decide +kernel
theorem dX11_feed_22 : decode cX11_feed 22 = .ok (.invokevirtual 90, 3) := by decide +kernel
theorem dX11_feed_25 : decode cX11_feed 25 = .ok (.aload_n 0, 1) := by decide +kernel
theorem dX11_feed_26 : decode cX11_feed 26 = .ok (.iload_n 3, 1) := by decide +kernel
theorem dX11_feed_27 : decode cX11_feed 27 = .ok (.invokevirtual 90, 3) := by decide +kernel
theorem dX11_feed_30 : decode cX11_feed 30 = .ok (.aload_n 0, 1) := by decide +kernel
theorem dX11_feed_31 : decode cX11_feed 31 = .ok (.iload 4, 2) := by decide +kernel
theorem dX11_feed_33 : decode cX11_feed 33 = .ok (.invokevirtual 90, 3) := by decide +kernel
theorem dX11_feed_36 : decode cX11_feed 36 = .ok (.aload_n 0, 1) := by decide +kernel
theorem dX11_feed_37 : decode cX11_feed 37 = .ok (.iload 5, 2) := by decide +kernel
theorem dX11_feed_39 : decode cX11_feed 39 = .ok (.invokevirtual 90, 3) := by decide +kernel
theorem dX11_feed_42 : decode cX11_feed 42 = .ok (.aload_n 0, 1) := by decide +kernel
theorem dX11_feed_43 : decode cX11_feed 43 = .ok (.getfield 68, 3) := by decide +kernel
theorem dX11_feed_46 : decode cX11_feed 46 = .ok (.ireturn, 1) := by decide +kernel
theorem dX11_tell_0 : decode cX11_tell 0 = .ok (.iload_n 1, 1) := by decide +kernel
theorem dX11_tell_1 : decode cX11_tell 1 = .ok (.invokestatic 93, 3) := by decide +kernel
theorem dX11_tell_4 : decode cX11_tell 4 = .ok (.ifCond .eq 15, 3) := by decide +kernel
theorem dX11_tell_7 : decode cX11_tell 7 = .ok (.iload_n 2, 1) := by decide +kernel
theorem dX11_tell_8 : decode cX11_tell 8 = .ok (.ifCond .lt 11, 3) := by decide +kernel
theorem dX11_tell_11 : decode cX11_tell 11 = .ok (.iload_n 2, 1) := by decide +kernel
theorem dX11_tell_12 : decode cX11_tell 12 = .ok (.aload_n 0, 1) := by decide +kernel
theorem dX11_tell_13 : decode cX11_tell 13 = .ok (.getfield 68, 3) := by decide +kernel
theorem dX11_tell_16 : decode cX11_tell 16 = .ok (.if_icmp .le 13, 3) := by decide +kernel
theorem dX11_tell_19 : decode cX11_tell 19 = .ok (.new 96, 3) := by decide +kernel
theorem dX11_tell_22 : decode cX11_tell 22 = .ok (.dup, 1) := by decide +kernel
theorem dX11_tell_23 : decode cX11_tell 23 = .ok (.ldc 98, 2) := by decide +kernel
theorem dX11_tell_25 : decode cX11_tell 25 = .ok (.invokespecial 100, 3) := by decide +kernel
theorem dX11_tell_28 : decode cX11_tell 28 = .ok (.athrow, 1) := by decide +kernel
theorem dX11_tell_29 : decode cX11_tell 29 = .ok (.aload_n 0, 1) := by decide +kernel
theorem dX11_tell_30 : decode cX11_tell 30 = .ok (.iconst 0, 1) := by decide +kernel
theorem dX11_tell_31 : decode cX11_tell 31 = .ok (.putfield 68, 3) := by decide +kernel
theorem dX11_tell_34 : decode cX11_tell 34 = .ok (.new 103, 3) := by decide +kernel
theorem dX11_tell_37 : decode cX11_tell 37 = .ok (.dup, 1) := by decide +kernel
theorem dX11_tell_38 : decode cX11_tell 38 = .ok (.invokespecial 105, 3) := by decide +kernel
theorem dX11_tell_41 : decode cX11_tell 41 = .ok (.astore_n 3, 1) := by decide +kernel
theorem dX11_tell_42 : decode cX11_tell 42 = .ok (.new 106, 3) := by decide +kernel
theorem dX11_tell_45 : decode cX11_tell 45 = .ok (.dup, 1) := by decide +kernel
theorem dX11_tell_46 : decode cX11_tell 46 = .ok (.aload_n 0, 1) := by decide +kernel
theorem dX11_tell_47 : decode cX11_tell 47 = .ok (.getfield 64, 3) := by decide +kernel
theorem dX11_tell_50 : decode cX11_tell 50 = .ok (.iload_n 2, 1) := by decide +kernel
theorem dX11_tell_51 : decode cX11_tell 51 = .ok (.aload_n 3, 1) := by decide +kernel
theorem dX11_tell_52 : decode cX11_tell 52 = .ok (.invokespecial 108, 3) := by decide +kernel
theorem dX11_tell_55 : decode cX11_tell 55 = .ok (.astore 4, 2) := by decide +kernel
theorem dX11_tell_57 : decode cX11_tell 57 = .ok (.aload 4, 2) := by decide +kernel
theorem dX11_tell_59 : decode cX11_tell 59 = .ok (.invokevirtual 111, 3) := by decide +kernel
theorem dX11_tell_62 : decode cX11_tell 62 = .ok (.istore 5, 2) := by decide +kernel
theorem dX11_tell_64 : decode cX11_tell 64 = .ok (.aload_n 0, 1) := by decide +kernel
theorem dX11_tell_65 : decode cX11_tell 65 = .ok (.iload 5, 2) := by decide +kernel
theorem dX11_tell_67 : decode cX11_tell 67 = .ok (.ifCond .ne 7, 3) := by decide +kernel
theorem dX11_tell_70 : decode cX11_tell 70 = .ok (.iconst (-1), 1) := by decide +kernel
theorem dX11_tell_71 : decode cX11_tell 71 = .ok (.goto 8, 3) := by decide +kernel
theorem dX11_tell_74 : decode cX11_tell 74 = .ok (.aload 4, 2) := by decide +kernel
theorem dX11_tell_76 : decode cX11_tell 76 = .ok (.getfield 115, 3) := by decide +kernel
theorem dX11_tell_79 : decode cX11_tell 79 = .ok (.putfield 72, 3) := by decide +kernel
theorem dX11_tell_82 : decode cX11_tell 82 = .ok (.iload 5, 2) := by decide +kernel
theorem dX11_tell_84 : decode cX11_tell 84 = .ok (.ifCond .eq 9, 3) := by decide +kernel
theorem dX11_tell_87 : decode cX11_tell 87 = .ok (.bipush (-10), 2) := by decide +kernel
theorem dX11_tell_89 : decode cX11_tell 89 = .ok (.iload 5, 2) := by decide +kernel
theorem dX11_tell_91 : decode cX11_tell 91 = .ok (.isub, 1) := by decide +kernel
theorem dX11_tell_92 : decode cX11_tell 92 = .ok (.ireturn, 1) := by decide +kernel
theorem dX11_tell_93 : decode cX11_tell 93 = .ok (.aload_n 3, 1) := by decide +kernel
theorem dX11_tell_94 : decode cX11_tell 94 = .ok (.aload_n 0, 1) := by decide +kernel
theorem dX11_tell_95 : decode cX11_tell 95 = .ok (.getfield 25, 3) := by decide +kernel
theorem dX11_tell_98 : decode cX11_tell 98 = .ok (.invokevirtual 118, 3) := by decide +kernel
theorem dX11_tell_101 : decode cX11_tell 101 = .ok (.ifCond .ne 6, 3) := by decide +kernel
theorem dX11_tell_104 : decode cX11_tell 104 = .ok (.bipush (-2), 2) := by decide +kernel
theorem dX11_tell_106 : decode cX11_tell 106 = .ok (.ireturn, 1) := by decide +kernel
theorem dX11_tell_107 : decode cX11_tell 107 = .ok (.aload_n 0, 1) := by decide +kernel
theorem dX11_tell_108 : decode cX11_tell 108 = .ok (.aload_n 3, 1) := by decide +kernel
theorem dX11_tell_109 : decode cX11_tell 109 = .ok (.putfield 75, 3) := by decide +kernel
theorem dX11_tell_112 : decode cX11_tell 112 = .ok (.aload_n 0, 1) := by decide +kernel
theorem dX11_tell_113 : decode cX11_tell 113 = .ok (.iload_n 1, 1) := by decide +kernel
theorem dX11_tell_114 : decode cX11_tell 114 = .ok (.aload_n 3, 1) := by decide +kernel
theorem dX11_tell_115 : decode cX11_tell 115 = .ok (.getfield 122, 3) := by decide +kernel
theorem dX11_tell_118 : decode cX11_tell 118 = .ok (.aload_n 3, 1) := by decide +kernel
theorem dX11_tell_119 : decode cX11_tell 119 = .ok (.getfield 125, 3) := by decide +kernel
theorem dX11_tell_122 : decode cX11_tell 122 = .ok (.iconst 1, 1) := by decide +kernel
theorem dX11_tell_123 : decode cX11_tell 123 = .ok (.isub, 1) := by decide +kernel
theorem dX11_tell_124 : decode cX11_tell 124 = .ok (.aaload, 1) := by decide +kernel
theorem dX11_tell_125 : decode cX11_tell 125 = .ok (.invokevirtual 128, 3) := by decide +kernel
theorem dX11_tell_128 : decode cX11_tell 128 = .ok (.ireturn, 1) := by decide +kernel
theorem dX11_fault_0 : decode cX11_fault 0 = .ok (.aload_n 0, 1) := by decide +kernel
theorem dX11_fault_1 : decode cX11_fault 1 = .ok (.getfield 72, 3) := by decide +kernel
theorem dX11_fault_4 : decode cX11_fault 4 = .ok (.ireturn, 1) := by decide +kernel
theorem dX11_count_0 : decode cX11_count 0 = .ok (.iload_n 1, 1) := by decide +kernel
theorem dX11_count_1 : decode cX11_count 1 = .ok (.tableswitch 71 0 3 #[31, 39, 58, 63], 31) := by decide +kernel
theorem dX11_count_32 : decode cX11_count 32 = .ok (.aload_n 0, 1) := by decide +kernel
theorem dX11_count_33 : decode cX11_count 33 = .ok (.getfield 25, 3) := by decide +kernel
theorem dX11_count_36 : decode cX11_count 36 = .ok (.getfield 83, 3) := by decide +kernel
theorem dX11_count_39 : decode cX11_count 39 = .ok (.ireturn, 1) := by decide +kernel
theorem dX11_count_40 : decode cX11_count 40 = .ok (.aload_n 0, 1) := by decide +kernel
theorem dX11_count_41 : decode cX11_count 41 = .ok (.getfield 75, 3) := by decide +kernel
theorem dX11_count_44 : decode cX11_count 44 = .ok (.ifnonnull 7, 3) := by decide +kernel
theorem dX11_count_47 : decode cX11_count 47 = .ok (.iconst 0, 1) := by decide +kernel
theorem dX11_count_48 : decode cX11_count 48 = .ok (.goto 10, 3) := by decide +kernel
theorem dX11_count_51 : decode cX11_count 51 = .ok (.aload_n 0, 1) := by decide +kernel
theorem dX11_count_52 : decode cX11_count 52 = .ok (.getfield 75, 3) := by decide +kernel
theorem dX11_count_55 : decode cX11_count 55 = .ok (.getfield 125, 3) := by decide +kernel
theorem dX11_count_58 : decode cX11_count 58 = .ok (.ireturn, 1) := by decide +kernel
theorem dX11_count_59 : decode cX11_count 59 = .ok (.aload_n 0, 1) := by decide +kernel
theorem dX11_count_60 : decode cX11_count 60 = .ok (.getfield 68, 3) := by decide +kernel
theorem dX11_count_63 : decode cX11_count 63 = .ok (.ireturn, 1) := by decide +kernel
theorem dX11_count_64 : decode cX11_count 64 = .ok (.aload_n 0, 1) := by decide +kernel
theorem dX11_count_65 : decode cX11_count 65 = .ok (.getfield 60, 3) := by decide +kernel
theorem dX11_count_68 : decode cX11_count 68 = .ok (.getfield 132, 3) := by decide +kernel
theorem dX11_count_71 : decode cX11_count 71 = .ok (.ireturn, 1) := by decide +kernel
theorem dX11_count_72 : decode cX11_count 72 = .ok (.new 133, 3) := by decide +kernel
theorem dX11_count_75 : decode cX11_count 75 = .ok (.dup, 1) := by decide +kernel
theorem dX11_count_76 : decode cX11_count 76 = .ok (.ldc 135, 2) := by decide +kernel
theorem dX11_count_78 : decode cX11_count 78 = .ok (.invokespecial 137, 3) := by decide +kernel
theorem dX11_count_81 : decode cX11_count 81 = .ok (.athrow, 1) := by decide +kernel
theorem dX11_step_0 : decode cX11_step 0 = .ok (.aload_n 0, 1) := by decide +kernel
theorem dX11_step_1 : decode cX11_step 1 = .ok (.getfield 75, 3) := by decide +kernel
theorem dX11_step_4 : decode cX11_step 4 = .ok (.astore_n 3, 1) := by decide +kernel
theorem dX11_step_5 : decode cX11_step 5 = .ok (.aload_n 3, 1) := by decide +kernel
theorem dX11_step_6 : decode cX11_step 6 = .ok (.ifnull 15, 3) := by decide +kernel
theorem dX11_step_9 : decode cX11_step 9 = .ok (.iload_n 1, 1) := by decide +kernel
theorem dX11_step_10 : decode cX11_step 10 = .ok (.ifCond .lt 11, 3) := by decide +kernel
theorem dX11_step_13 : decode cX11_step 13 = .ok (.iload_n 1, 1) := by decide +kernel
theorem dX11_step_14 : decode cX11_step 14 = .ok (.aload_n 3, 1) := by decide +kernel
theorem dX11_step_15 : decode cX11_step 15 = .ok (.getfield 125, 3) := by decide +kernel
theorem dX11_step_18 : decode cX11_step 18 = .ok (.if_icmp .lt 13, 3) := by decide +kernel
theorem dX11_step_21 : decode cX11_step 21 = .ok (.new 133, 3) := by decide +kernel
theorem dX11_step_24 : decode cX11_step 24 = .ok (.dup, 1) := by decide +kernel
theorem dX11_step_25 : decode cX11_step 25 = .ok (.ldc 138, 2) := by decide +kernel
theorem dX11_step_27 : decode cX11_step 27 = .ok (.invokespecial 137, 3) := by decide +kernel
theorem dX11_step_30 : decode cX11_step 30 = .ok (.athrow, 1) := by decide +kernel
theorem dX11_step_31 : decode cX11_step 31 = .ok (.iload_n 2, 1) := by decide +kernel
theorem dX11_step_32 : decode cX11_step 32 = .ok (.tableswitch 104 0 6 #[44, 51, 61, 71, 78, 92, 98], 44) := by decide +kernel
theorem dX11_step_76 : decode cX11_step 76 = .ok (.aload_n 3, 1) := by decide +kernel
theorem dX11_step_77 : decode cX11_step 77 = .ok (.getfield 140, 3) := by decide +kernel
theorem dX11_step_80 : decode cX11_step 80 = .ok (.iload_n 1, 1) := by decide +kernel
theorem dX11_step_81 : decode cX11_step 81 = .ok (.iaload, 1) := by decide +kernel
theorem dX11_step_82 : decode cX11_step 82 = .ok (.ireturn, 1) := by decide +kernel
theorem dX11_step_83 : decode cX11_step 83 = .ok (.aload_n 3, 1) := by decide +kernel
theorem dX11_step_84 : decode cX11_step 84 = .ok (.getfield 122, 3) := by decide +kernel
theorem dX11_step_87 : decode cX11_step 87 = .ok (.iload_n 1, 1) := by decide +kernel
theorem dX11_step_88 : decode cX11_step 88 = .ok (.aaload, 1) := by decide +kernel
theorem dX11_step_89 : decode cX11_step 89 = .ok (.invokevirtual 143, 3) := by decide +kernel
theorem dX11_step_92 : decode cX11_step 92 = .ok (.ireturn, 1) := by decide +kernel
theorem dX11_step_93 : decode cX11_step 93 = .ok (.aload_n 3, 1) := by decide +kernel
theorem dX11_step_94 : decode cX11_step 94 = .ok (.getfield 122, 3) := by decide +kernel
theorem dX11_step_97 : decode cX11_step 97 = .ok (.iload_n 1, 1) := by decide +kernel
theorem dX11_step_98 : decode cX11_step 98 = .ok (.aaload, 1) := by decide +kernel
theorem dX11_step_99 : decode cX11_step 99 = .ok (.getfield 146, 3) := by decide +kernel
theorem dX11_step_102 : decode cX11_step 102 = .ok (.ireturn, 1) := by decide +kernel
theorem dX11_step_103 : decode cX11_step 103 = .ok (.aload_n 3, 1) := by decide +kernel
theorem dX11_step_104 : decode cX11_step 104 = .ok (.getfield 147, 3) := by decide +kernel
theorem dX11_step_107 : decode cX11_step 107 = .ok (.iload_n 1, 1) := by decide +kernel
theorem dX11_step_108 : decode cX11_step 108 = .ok (.iaload, 1) := by decide +kernel
theorem dX11_step_109 : decode cX11_step 109 = .ok (.ireturn, 1) := by decide +kernel
theorem dX11_step_110 : decode cX11_step 110 = .ok (.aload_n 3, 1) := by decide +kernel
theorem dX11_step_111 : decode cX11_step 111 = .ok (.iload_n 1, 1) := by decide +kernel
theorem dX11_step_112 : decode cX11_step 112 = .ok (.invokevirtual 150, 3) := by decide +kernel
theorem dX11_step_115 : decode cX11_step 115 = .ok (.ifCond .eq 7, 3) := by decide +kernel
theorem dX11_step_118 : decode cX11_step 118 = .ok (.iconst 1, 1) := by decide +kernel
theorem dX11_step_119 : decode cX11_step 119 = .ok (.goto 4, 3) := by decide +kernel
theorem dX11_step_122 : decode cX11_step 122 = .ok (.iconst 0, 1) := by decide +kernel
theorem dX11_step_123 : decode cX11_step 123 = .ok (.ireturn, 1) := by decide +kernel
theorem dX11_step_124 : decode cX11_step 124 = .ok (.aload_n 3, 1) := by decide +kernel
theorem dX11_step_125 : decode cX11_step 125 = .ok (.iload_n 1, 1) := by decide +kernel
theorem dX11_step_126 : decode cX11_step 126 = .ok (.invokevirtual 153, 3) := by decide +kernel
theorem dX11_step_129 : decode cX11_step 129 = .ok (.ireturn, 1) := by decide +kernel
theorem dX11_step_130 : decode cX11_step 130 = .ok (.aload_n 3, 1) := by decide +kernel
theorem dX11_step_131 : decode cX11_step 131 = .ok (.iload_n 1, 1) := by decide +kernel
theorem dX11_step_132 : decode cX11_step 132 = .ok (.invokevirtual 157, 3) := by decide +kernel
theorem dX11_step_135 : decode cX11_step 135 = .ok (.ireturn, 1) := by decide +kernel
theorem dX11_step_136 : decode cX11_step 136 = .ok (.new 133, 3) := by decide +kernel
theorem dX11_step_139 : decode cX11_step 139 = .ok (.dup, 1) := by decide +kernel
theorem dX11_step_140 : decode cX11_step 140 = .ok (.ldc 160, 2) := by decide +kernel
theorem dX11_step_142 : decode cX11_step 142 = .ok (.invokespecial 137, 3) := by decide +kernel
theorem dX11_step_145 : decode cX11_step 145 = .ok (.athrow, 1) := by decide +kernel
theorem dX11_at_0 : decode cX11_at 0 = .ok (.aload_n 0, 1) := by decide +kernel
theorem dX11_at_1 : decode cX11_at 1 = .ok (.getfield 75, 3) := by decide +kernel
theorem dX11_at_4 : decode cX11_at 4 = .ok (.astore 6, 2) := by decide +kernel
theorem dX11_at_6 : decode cX11_at 6 = .ok (.aload 6, 2) := by decide +kernel
theorem dX11_at_8 : decode cX11_at 8 = .ok (.ifnull 16, 3) := by decide +kernel
theorem dX11_at_11 : decode cX11_at 11 = .ok (.iload_n 1, 1) := by decide +kernel
theorem dX11_at_12 : decode cX11_at 12 = .ok (.ifCond .lt 12, 3) := by decide +kernel
theorem dX11_at_15 : decode cX11_at 15 = .ok (.iload_n 1, 1) := by decide +kernel
theorem dX11_at_16 : decode cX11_at 16 = .ok (.aload 6, 2) := by decide +kernel
theorem dX11_at_18 : decode cX11_at 18 = .ok (.getfield 125, 3) := by decide +kernel
theorem dX11_at_21 : decode cX11_at 21 = .ok (.if_icmp .lt 13, 3) := by decide +kernel
theorem dX11_at_24 : decode cX11_at 24 = .ok (.new 133, 3) := by decide +kernel
theorem dX11_at_27 : decode cX11_at 27 = .ok (.dup, 1) := by decide +kernel
theorem dX11_at_28 : decode cX11_at 28 = .ok (.ldc 138, 2) := by decide +kernel
theorem dX11_at_30 : decode cX11_at 30 = .ok (.invokespecial 137, 3) := by decide +kernel
theorem dX11_at_33 : decode cX11_at 33 = .ok (.athrow, 1) := by decide +kernel
theorem dX11_at_34 : decode cX11_at 34 = .ok (.aload_n 0, 1) := by decide +kernel
theorem dX11_at_35 : decode cX11_at 35 = .ok (.getfield 25, 3) := by decide +kernel
theorem dX11_at_38 : decode cX11_at 38 = .ok (.iload_n 3, 1) := by decide +kernel
theorem dX11_at_39 : decode cX11_at 39 = .ok (.iload 4, 2) := by decide +kernel
theorem dX11_at_41 : decode cX11_at 41 = .ok (.iload 5, 2) := by decide +kernel
theorem dX11_at_43 : decode cX11_at 43 = .ok (.invokevirtual 162, 3) := by decide +kernel
theorem dX11_at_46 : decode cX11_at 46 = .ok (.ifCond .ne 13, 3) := by decide +kernel
theorem dX11_at_49 : decode cX11_at 49 = .ok (.new 96, 3) := by decide +kernel
theorem dX11_at_52 : decode cX11_at 52 = .ok (.dup, 1) := by decide +kernel
theorem dX11_at_53 : decode cX11_at 53 = .ok (.ldc 166, 2) := by decide +kernel
theorem dX11_at_55 : decode cX11_at 55 = .ok (.invokespecial 100, 3) := by decide +kernel
theorem dX11_at_58 : decode cX11_at 58 = .ok (.athrow, 1) := by decide +kernel
theorem dX11_at_59 : decode cX11_at 59 = .ok (.aload 6, 2) := by decide +kernel
theorem dX11_at_61 : decode cX11_at 61 = .ok (.iload_n 3, 1) := by decide +kernel
theorem dX11_at_62 : decode cX11_at 62 = .ok (.iload 4, 2) := by decide +kernel
theorem dX11_at_64 : decode cX11_at 64 = .ok (.iload 5, 2) := by decide +kernel
theorem dX11_at_66 : decode cX11_at 66 = .ok (.aload_n 0, 1) := by decide +kernel
theorem dX11_at_67 : decode cX11_at 67 = .ok (.getfield 25, 3) := by decide +kernel
theorem dX11_at_70 : decode cX11_at 70 = .ok (.getfield 83, 3) := by decide +kernel
theorem dX11_at_73 : decode cX11_at 73 = .ok (.invokevirtual 168, 3) := by decide +kernel
theorem dX11_at_76 : decode cX11_at 76 = .ok (.iload_n 2, 1) := by decide +kernel
theorem dX11_at_77 : decode cX11_at 77 = .ok (.ifCond .eq 19, 3) := by decide +kernel
theorem dX11_at_80 : decode cX11_at 80 = .ok (.aload 6, 2) := by decide +kernel
theorem dX11_at_82 : decode cX11_at 82 = .ok (.iload_n 1, 1) := by decide +kernel
theorem dX11_at_83 : decode cX11_at 83 = .ok (.aload_n 0, 1) := by decide +kernel
theorem dX11_at_84 : decode cX11_at 84 = .ok (.getfield 25, 3) := by decide +kernel
theorem dX11_at_87 : decode cX11_at 87 = .ok (.getfield 83, 3) := by decide +kernel
theorem dX11_at_90 : decode cX11_at 90 = .ok (.invokevirtual 172, 3) := by decide +kernel
theorem dX11_at_93 : decode cX11_at 93 = .ok (.goto 10, 3) := by decide +kernel
theorem dX11_at_96 : decode cX11_at 96 = .ok (.aload 6, 2) := by decide +kernel
theorem dX11_at_98 : decode cX11_at 98 = .ok (.getfield 176, 3) := by decide +kernel
theorem dX11_at_101 : decode cX11_at 101 = .ok (.iload_n 1, 1) := by decide +kernel
theorem dX11_at_102 : decode cX11_at 102 = .ok (.iaload, 1) := by decide +kernel
theorem dX11_at_103 : decode cX11_at 103 = .ok (.ireturn, 1) := by decide +kernel
theorem dX11_make_0 : decode cX11_make 0 = .ok (.iload_n 1, 1) := by decide +kernel
theorem dX11_make_1 : decode cX11_make 1 = .ok (.invokestatic 93, 3) := by decide +kernel
theorem dX11_make_4 : decode cX11_make 4 = .ok (.ifCond .eq 21, 3) := by decide +kernel
theorem dX11_make_7 : decode cX11_make 7 = .ok (.iload_n 3, 1) := by decide +kernel
theorem dX11_make_8 : decode cX11_make 8 = .ok (.invokestatic 93, 3) := by decide +kernel
theorem dX11_make_11 : decode cX11_make 11 = .ok (.ifCond .eq 14, 3) := by decide +kernel
theorem dX11_make_14 : decode cX11_make 14 = .ok (.aload_n 0, 1) := by decide +kernel
theorem dX11_make_15 : decode cX11_make 15 = .ok (.iload_n 2, 1) := by decide +kernel
theorem dX11_make_16 : decode cX11_make 16 = .ok (.iload_n 3, 1) := by decide +kernel
theorem dX11_make_17 : decode cX11_make 17 = .ok (.iload 4, 2) := by decide +kernel
theorem dX11_make_19 : decode cX11_make 19 = .ok (.invokevirtual 179, 3) := by decide +kernel
theorem dX11_make_22 : decode cX11_make 22 = .ok (.ifCond .ne 5, 3) := by decide +kernel
theorem dX11_make_25 : decode cX11_make 25 = .ok (.iconst (-1), 1) := by decide +kernel
theorem dX11_make_26 : decode cX11_make 26 = .ok (.ireturn, 1) := by decide +kernel
theorem dX11_make_27 : decode cX11_make 27 = .ok (.aload_n 0, 1) := by decide +kernel
theorem dX11_make_28 : decode cX11_make 28 = .ok (.iload_n 1, 1) := by decide +kernel
theorem dX11_make_29 : decode cX11_make 29 = .ok (.aload_n 0, 1) := by decide +kernel
theorem dX11_make_30 : decode cX11_make 30 = .ok (.iload_n 2, 1) := by decide +kernel
theorem dX11_make_31 : decode cX11_make 31 = .ok (.aload_n 0, 1) := by decide +kernel
theorem dX11_make_32 : decode cX11_make 32 = .ok (.getfield 18, 3) := by decide +kernel
theorem dX11_make_35 : decode cX11_make 35 = .ok (.iload_n 3, 1) := by decide +kernel
theorem dX11_make_36 : decode cX11_make 36 = .ok (.aaload, 1) := by decide +kernel
theorem dX11_make_37 : decode cX11_make 37 = .ok (.iload 4, 2) := by decide +kernel
theorem dX11_make_39 : decode cX11_make 39 = .ok (.invokevirtual 182, 3) := by decide +kernel
theorem dX11_make_42 : decode cX11_make 42 = .ok (.invokevirtual 128, 3) := by decide +kernel
theorem dX11_make_45 : decode cX11_make 45 = .ok (.ireturn, 1) := by decide +kernel
theorem dX11_put_0 : decode cX11_put 0 = .ok (.iload_n 1, 1) := by decide +kernel
theorem dX11_put_1 : decode cX11_put 1 = .ok (.invokestatic 93, 3) := by decide +kernel
theorem dX11_put_4 : decode cX11_put 4 = .ok (.ifCond .eq 27, 3) := by decide +kernel
theorem dX11_put_7 : decode cX11_put 7 = .ok (.iload_n 2, 1) := by decide +kernel
theorem dX11_put_8 : decode cX11_put 8 = .ok (.invokestatic 93, 3) := by decide +kernel
theorem dX11_put_11 : decode cX11_put 11 = .ok (.ifCond .eq 20, 3) := by decide +kernel
theorem dX11_put_14 : decode cX11_put 14 = .ok (.iload 4, 2) := by decide +kernel
theorem dX11_put_16 : decode cX11_put 16 = .ok (.invokestatic 93, 3) := by decide +kernel
theorem dX11_put_19 : decode cX11_put 19 = .ok (.ifCond .eq 12, 3) := by decide +kernel
theorem dX11_put_22 : decode cX11_put 22 = .ok (.iload_n 3, 1) := by decide +kernel
theorem dX11_put_23 : decode cX11_put 23 = .ok (.ifCond .lt 8, 3) := by decide +kernel
theorem dX11_put_26 : decode cX11_put 26 = .ok (.iload_n 3, 1) := by decide +kernel
theorem dX11_put_27 : decode cX11_put 27 = .ok (.iconst 3, 1) := by decide +kernel
theorem dX11_put_28 : decode cX11_put 28 = .ok (.if_icmp .lt 5, 3) := by decide +kernel
theorem dX11_put_31 : decode cX11_put 31 = .ok (.iconst (-1), 1) := by decide +kernel
theorem dX11_put_32 : decode cX11_put 32 = .ok (.ireturn, 1) := by decide +kernel
theorem dX11_put_33 : decode cX11_put 33 = .ok (.aload_n 0, 1) := by decide +kernel
theorem dX11_put_34 : decode cX11_put 34 = .ok (.iload_n 1, 1) := by decide +kernel
theorem dX11_put_35 : decode cX11_put 35 = .ok (.aload_n 0, 1) := by decide +kernel
theorem dX11_put_36 : decode cX11_put 36 = .ok (.getfield 25, 3) := by decide +kernel
theorem dX11_put_39 : decode cX11_put 39 = .ok (.aload_n 0, 1) := by decide +kernel
theorem dX11_put_40 : decode cX11_put 40 = .ok (.getfield 18, 3) := by decide +kernel
theorem dX11_put_43 : decode cX11_put 43 = .ok (.iload_n 2, 1) := by decide +kernel
theorem dX11_put_44 : decode cX11_put 44 = .ok (.aaload, 1) := by decide +kernel
theorem dX11_put_45 : decode cX11_put 45 = .ok (.iload_n 3, 1) := by decide +kernel
theorem dX11_put_46 : decode cX11_put 46 = .ok (.aload_n 0, 1) := by decide +kernel
theorem dX11_put_47 : decode cX11_put 47 = .ok (.getfield 18, 3) := by decide +kernel
theorem dX11_put_50 : decode cX11_put 50 = .ok (.iload 4, 2) := by decide +kernel
theorem dX11_put_52 : decode cX11_put 52 = .ok (.aaload, 1) := by decide +kernel
theorem dX11_put_53 : decode cX11_put 53 = .ok (.invokevirtual 186, 3) := by decide +kernel
theorem dX11_put_56 : decode cX11_put 56 = .ok (.invokevirtual 128, 3) := by decide +kernel
theorem dX11_put_59 : decode cX11_put 59 = .ok (.ireturn, 1) := by decide +kernel
theorem dX11_fit_0 : decode cX11_fit 0 = .ok (.iload_n 1, 1) := by decide +kernel
theorem dX11_fit_1 : decode cX11_fit 1 = .ok (.invokestatic 93, 3) := by decide +kernel
theorem dX11_fit_4 : decode cX11_fit 4 = .ok (.ifCond .eq 17, 3) := by decide +kernel
theorem dX11_fit_7 : decode cX11_fit 7 = .ok (.aload_n 0, 1) := by decide +kernel
theorem dX11_fit_8 : decode cX11_fit 8 = .ok (.getfield 68, 3) := by decide +kernel
theorem dX11_fit_11 : decode cX11_fit 11 = .ok (.aload_n 0, 1) := by decide +kernel
theorem dX11_fit_12 : decode cX11_fit 12 = .ok (.getfield 25, 3) := by decide +kernel
theorem dX11_fit_15 : decode cX11_fit 15 = .ok (.getfield 83, 3) := by decide +kernel
theorem dX11_fit_18 : decode cX11_fit 18 = .ok (.if_icmp .ge 13, 3) := by decide +kernel
theorem dX11_fit_21 : decode cX11_fit 21 = .ok (.new 96, 3) := by decide +kernel
theorem dX11_fit_24 : decode cX11_fit 24 = .ok (.dup, 1) := by decide +kernel
theorem dX11_fit_25 : decode cX11_fit 25 = .ok (.ldc 190, 2) := by decide +kernel
theorem dX11_fit_27 : decode cX11_fit 27 = .ok (.invokespecial 100, 3) := by decide +kernel
theorem dX11_fit_30 : decode cX11_fit 30 = .ok (.athrow, 1) := by decide +kernel
theorem dX11_fit_31 : decode cX11_fit 31 = .ok (.aload_n 0, 1) := by decide +kernel
theorem dX11_fit_32 : decode cX11_fit 32 = .ok (.iconst 0, 1) := by decide +kernel
theorem dX11_fit_33 : decode cX11_fit 33 = .ok (.putfield 68, 3) := by decide +kernel
theorem dX11_fit_36 : decode cX11_fit 36 = .ok (.iconst 0, 1) := by decide +kernel
theorem dX11_fit_37 : decode cX11_fit 37 = .ok (.istore_n 2, 1) := by decide +kernel
theorem dX11_fit_38 : decode cX11_fit 38 = .ok (.iload_n 2, 1) := by decide +kernel
theorem dX11_fit_39 : decode cX11_fit 39 = .ok (.aload_n 0, 1) := by decide +kernel
theorem dX11_fit_40 : decode cX11_fit 40 = .ok (.getfield 25, 3) := by decide +kernel
theorem dX11_fit_43 : decode cX11_fit 43 = .ok (.getfield 83, 3) := by decide +kernel
theorem dX11_fit_46 : decode cX11_fit 46 = .ok (.if_icmp .ge 27, 3) := by decide +kernel
theorem dX11_fit_49 : decode cX11_fit 49 = .ok (.aload_n 0, 1) := by decide +kernel
theorem dX11_fit_50 : decode cX11_fit 50 = .ok (.getfield 64, 3) := by decide +kernel
theorem dX11_fit_53 : decode cX11_fit 53 = .ok (.iload_n 2, 1) := by decide +kernel
theorem dX11_fit_54 : decode cX11_fit 54 = .ok (.iaload, 1) := by decide +kernel
theorem dX11_fit_55 : decode cX11_fit 55 = .ok (.aload_n 0, 1) := by decide +kernel
theorem dX11_fit_56 : decode cX11_fit 56 = .ok (.getfield 25, 3) := by decide +kernel
theorem dX11_fit_59 : decode cX11_fit 59 = .ok (.getfield 83, 3) := by decide +kernel
theorem dX11_fit_62 : decode cX11_fit 62 = .ok (.if_icmp .lt 5, 3) := by decide +kernel
theorem dX11_fit_65 : decode cX11_fit 65 = .ok (.iconst (-1), 1) := by decide +kernel
theorem dX11_fit_66 : decode cX11_fit 66 = .ok (.ireturn, 1) := by decide +kernel
theorem dX11_fit_67 : decode cX11_fit 67 = .ok (.iinc 2 1, 3) := by decide +kernel
theorem dX11_fit_70 : decode cX11_fit 70 = .ok (.goto (-32), 3) := by decide +kernel
theorem dX11_fit_73 : decode cX11_fit 73 = .ok (.aload_n 0, 1) := by decide +kernel
theorem dX11_fit_74 : decode cX11_fit 74 = .ok (.iload_n 1, 1) := by decide +kernel
theorem dX11_fit_75 : decode cX11_fit 75 = .ok (.aload_n 0, 1) := by decide +kernel
theorem dX11_fit_76 : decode cX11_fit 76 = .ok (.getfield 25, 3) := by decide +kernel
theorem dX11_fit_79 : decode cX11_fit 79 = .ok (.aload_n 0, 1) := by decide +kernel
theorem dX11_fit_80 : decode cX11_fit 80 = .ok (.getfield 64, 3) := by decide +kernel
theorem dX11_fit_83 : decode cX11_fit 83 = .ok (.invokevirtual 192, 3) := by decide +kernel
theorem dX11_fit_86 : decode cX11_fit 86 = .ok (.invokevirtual 128, 3) := by decide +kernel
theorem dX11_fit_89 : decode cX11_fit 89 = .ok (.ireturn, 1) := by decide +kernel
theorem dX11_undo_0 : decode cX11_undo 0 = .ok (.aload_n 0, 1) := by decide +kernel
theorem dX11_undo_1 : decode cX11_undo 1 = .ok (.getfield 60, 3) := by decide +kernel
theorem dX11_undo_4 : decode cX11_undo 4 = .ok (.getfield 132, 3) := by decide +kernel
theorem dX11_undo_7 : decode cX11_undo 7 = .ok (.ifCond .ne 5, 3) := by decide +kernel
theorem dX11_undo_10 : decode cX11_undo 10 = .ok (.iconst (-1), 1) := by decide +kernel
theorem dX11_undo_11 : decode cX11_undo 11 = .ok (.ireturn, 1) := by decide +kernel
theorem dX11_undo_12 : decode cX11_undo 12 = .ok (.aload_n 0, 1) := by decide +kernel
theorem dX11_undo_13 : decode cX11_undo 13 = .ok (.getfield 60, 3) := by decide +kernel
theorem dX11_undo_16 : decode cX11_undo 16 = .ok (.aload_n 0, 1) := by decide +kernel
theorem dX11_undo_17 : decode cX11_undo 17 = .ok (.getfield 18, 3) := by decide +kernel
theorem dX11_undo_20 : decode cX11_undo 20 = .ok (.invokevirtual 196, 3) := by decide +kernel
theorem dX11_undo_23 : decode cX11_undo 23 = .ok (.aload_n 0, 1) := by decide +kernel
theorem dX11_undo_24 : decode cX11_undo 24 = .ok (.getfield 60, 3) := by decide +kernel
theorem dX11_undo_27 : decode cX11_undo 27 = .ok (.getfield 132, 3) := by decide +kernel
theorem dX11_undo_30 : decode cX11_undo 30 = .ok (.ireturn, 1) := by decide +kernel
theorem dX11_of_0 : decode cX11_of 0 = .ok (.aload_n 0, 1) := by decide +kernel
theorem dX11_of_1 : decode cX11_of 1 = .ok (.iload_n 1, 1) := by decide +kernel
theorem dX11_of_2 : decode cX11_of 2 = .ok (.invokevirtual 200, 3) := by decide +kernel
theorem dX11_of_5 : decode cX11_of 5 = .ok (.astore_n 3, 1) := by decide +kernel
theorem dX11_of_6 : decode cX11_of 6 = .ok (.iload_n 2, 1) := by decide +kernel
theorem dX11_of_7 : decode cX11_of 7 = .ok (.tableswitch 153 0 8 #[49, 54, 59, 59, 59, 67, 94, 117, 140], 49) := by decide +kernel
theorem dX11_of_56 : decode cX11_of 56 = .ok (.aload_n 3, 1) := by decide +kernel
theorem dX11_of_57 : decode cX11_of 57 = .ok (.getfield 146, 3) := by decide +kernel
theorem dX11_of_60 : decode cX11_of 60 = .ok (.ireturn, 1) := by decide +kernel
theorem dX11_of_61 : decode cX11_of 61 = .ok (.aload_n 3, 1) := by decide +kernel
theorem dX11_of_62 : decode cX11_of 62 = .ok (.invokevirtual 143, 3) := by decide +kernel
theorem dX11_of_65 : decode cX11_of 65 = .ok (.ireturn, 1) := by decide +kernel
theorem dX11_of_66 : decode cX11_of 66 = .ok (.aload_n 3, 1) := by decide +kernel
theorem dX11_of_67 : decode cX11_of 67 = .ok (.iload_n 2, 1) := by decide +kernel
theorem dX11_of_68 : decode cX11_of 68 = .ok (.iconst 2, 1) := by decide +kernel
theorem dX11_of_69 : decode cX11_of 69 = .ok (.isub, 1) := by decide +kernel
theorem dX11_of_70 : decode cX11_of 70 = .ok (.invokevirtual 204, 3) := by decide +kernel
theorem dX11_of_73 : decode cX11_of 73 = .ok (.ireturn, 1) := by decide +kernel
theorem dX11_of_74 : decode cX11_of 74 = .ok (.aload_n 0, 1) := by decide +kernel
theorem dX11_of_75 : decode cX11_of 75 = .ok (.getfield 32, 3) := by decide +kernel
theorem dX11_of_78 : decode cX11_of 78 = .ok (.aload_n 3, 1) := by decide +kernel
theorem dX11_of_79 : decode cX11_of 79 = .ok (.aload_n 0, 1) := by decide +kernel
theorem dX11_of_80 : decode cX11_of 80 = .ok (.getfield 14, 3) := by decide +kernel
theorem dX11_of_83 : decode cX11_of 83 = .ok (.aload_n 0, 1) := by decide +kernel
theorem dX11_of_84 : decode cX11_of 84 = .ok (.getfield 25, 3) := by decide +kernel
theorem dX11_of_87 : decode cX11_of 87 = .ok (.getfield 83, 3) := by decide +kernel
theorem dX11_of_90 : decode cX11_of 90 = .ok (.invokevirtual 207, 3) := by decide +kernel
theorem dX11_of_93 : decode cX11_of 93 = .ok (.aload_n 0, 1) := by decide +kernel
theorem dX11_of_94 : decode cX11_of 94 = .ok (.getfield 32, 3) := by decide +kernel
theorem dX11_of_97 : decode cX11_of 97 = .ok (.invokevirtual 211, 3) := by decide +kernel
theorem dX11_of_100 : decode cX11_of 100 = .ok (.ireturn, 1) := by decide +kernel
theorem dX11_of_101 : decode cX11_of 101 = .ok (.aload_n 0, 1) := by decide +kernel
theorem dX11_of_102 : decode cX11_of 102 = .ok (.getfield 39, 3) := by decide +kernel
theorem dX11_of_105 : decode cX11_of 105 = .ok (.aload_n 3, 1) := by decide +kernel
theorem dX11_of_106 : decode cX11_of 106 = .ok (.aload_n 0, 1) := by decide +kernel
theorem dX11_of_107 : decode cX11_of 107 = .ok (.getfield 25, 3) := by decide +kernel
theorem dX11_of_110 : decode cX11_of 110 = .ok (.getfield 83, 3) := by decide +kernel
theorem dX11_of_113 : decode cX11_of 113 = .ok (.invokevirtual 214, 3) := by decide +kernel
theorem dX11_of_116 : decode cX11_of 116 = .ok (.aload_n 0, 1) := by decide +kernel
theorem dX11_of_117 : decode cX11_of 117 = .ok (.getfield 39, 3) := by decide +kernel
theorem dX11_of_120 : decode cX11_of 120 = .ok (.getfield 218, 3) := by decide +kernel
theorem dX11_of_123 : decode cX11_of 123 = .ok (.ireturn, 1) := by decide +kernel
theorem dX11_of_124 : decode cX11_of 124 = .ok (.aload_n 0, 1) := by decide +kernel
theorem dX11_of_125 : decode cX11_of 125 = .ok (.getfield 39, 3) := by decide +kernel
theorem dX11_of_128 : decode cX11_of 128 = .ok (.aload_n 3, 1) := by decide +kernel
theorem dX11_of_129 : decode cX11_of 129 = .ok (.aload_n 0, 1) := by decide +kernel
theorem dX11_of_130 : decode cX11_of 130 = .ok (.getfield 25, 3) := by decide +kernel
theorem dX11_of_133 : decode cX11_of 133 = .ok (.getfield 83, 3) := by decide +kernel
theorem dX11_of_136 : decode cX11_of 136 = .ok (.invokevirtual 214, 3) := by decide +kernel
theorem dX11_of_139 : decode cX11_of 139 = .ok (.aload_n 0, 1) := by decide +kernel
theorem dX11_of_140 : decode cX11_of 140 = .ok (.getfield 39, 3) := by decide +kernel
theorem dX11_of_143 : decode cX11_of 143 = .ok (.invokevirtual 219, 3) := by decide +kernel
theorem dX11_of_146 : decode cX11_of 146 = .ok (.ireturn, 1) := by decide +kernel
theorem dX11_of_147 : decode cX11_of 147 = .ok (.aload_n 3, 1) := by decide +kernel
theorem dX11_of_148 : decode cX11_of 148 = .ok (.invokevirtual 222, 3) := by decide +kernel
theorem dX11_of_151 : decode cX11_of 151 = .ok (.ifCond .eq 7, 3) := by decide +kernel
theorem dX11_of_154 : decode cX11_of 154 = .ok (.iconst 1, 1) := by decide +kernel
theorem dX11_of_155 : decode cX11_of 155 = .ok (.goto 4, 3) := by decide +kernel
theorem dX11_of_158 : decode cX11_of 158 = .ok (.iconst 0, 1) := by decide +kernel
theorem dX11_of_159 : decode cX11_of 159 = .ok (.ireturn, 1) := by decide +kernel
theorem dX11_of_160 : decode cX11_of 160 = .ok (.new 133, 3) := by decide +kernel
theorem dX11_of_163 : decode cX11_of 163 = .ok (.dup, 1) := by decide +kernel
theorem dX11_of_164 : decode cX11_of 164 = .ok (.ldc 226, 2) := by decide +kernel
theorem dX11_of_166 : decode cX11_of 166 = .ok (.invokespecial 137, 3) := by decide +kernel
theorem dX11_of_169 : decode cX11_of 169 = .ok (.athrow, 1) := by decide +kernel
theorem dX11_term_0 : decode cX11_term 0 = .ok (.aload_n 0, 1) := by decide +kernel
theorem dX11_term_1 : decode cX11_term 1 = .ok (.iload_n 1, 1) := by decide +kernel
theorem dX11_term_2 : decode cX11_term 2 = .ok (.invokevirtual 200, 3) := by decide +kernel
theorem dX11_term_5 : decode cX11_term 5 = .ok (.astore 5, 2) := by decide +kernel
theorem dX11_term_7 : decode cX11_term 7 = .ok (.iload_n 2, 1) := by decide +kernel
theorem dX11_term_8 : decode cX11_term 8 = .ok (.ifCond .lt 32, 3) := by decide +kernel
theorem dX11_term_11 : decode cX11_term 11 = .ok (.iload_n 2, 1) := by decide +kernel
theorem dX11_term_12 : decode cX11_term 12 = .ok (.iconst 2, 1) := by decide +kernel
theorem dX11_term_13 : decode cX11_term 13 = .ok (.if_icmp .gt 27, 3) := by decide +kernel
theorem dX11_term_16 : decode cX11_term 16 = .ok (.iload_n 3, 1) := by decide +kernel
theorem dX11_term_17 : decode cX11_term 17 = .ok (.ifCond .lt 23, 3) := by decide +kernel
theorem dX11_term_20 : decode cX11_term 20 = .ok (.iload_n 3, 1) := by decide +kernel
theorem dX11_term_21 : decode cX11_term 21 = .ok (.aload 5, 2) := by decide +kernel
theorem dX11_term_23 : decode cX11_term 23 = .ok (.getfield 146, 3) := by decide +kernel
theorem dX11_term_26 : decode cX11_term 26 = .ok (.if_icmp .ge 14, 3) := by decide +kernel
theorem dX11_term_29 : decode cX11_term 29 = .ok (.iload 4, 2) := by decide +kernel
theorem dX11_term_31 : decode cX11_term 31 = .ok (.ifCond .lt 9, 3) := by decide +kernel
theorem dX11_term_34 : decode cX11_term 34 = .ok (.iload 4, 2) := by decide +kernel
theorem dX11_term_36 : decode cX11_term 36 = .ok (.iconst 3, 1) := by decide +kernel
theorem dX11_term_37 : decode cX11_term 37 = .ok (.if_icmp .le 13, 3) := by decide +kernel
theorem dX11_term_40 : decode cX11_term 40 = .ok (.new 133, 3) := by decide +kernel
theorem dX11_term_43 : decode cX11_term 43 = .ok (.dup, 1) := by decide +kernel
theorem dX11_term_44 : decode cX11_term 44 = .ok (.ldc 228, 2) := by decide +kernel
theorem dX11_term_46 : decode cX11_term 46 = .ok (.invokespecial 137, 3) := by decide +kernel
theorem dX11_term_49 : decode cX11_term 49 = .ok (.athrow, 1) := by decide +kernel
theorem dX11_term_50 : decode cX11_term 50 = .ok (.aload_n 0, 1) := by decide +kernel
theorem dX11_term_51 : decode cX11_term 51 = .ok (.getfield 46, 3) := by decide +kernel
theorem dX11_term_54 : decode cX11_term 54 = .ok (.aload 5, 2) := by decide +kernel
theorem dX11_term_56 : decode cX11_term 56 = .ok (.iload_n 2, 1) := by decide +kernel
theorem dX11_term_57 : decode cX11_term 57 = .ok (.invokevirtual 230, 3) := by decide +kernel
theorem dX11_term_60 : decode cX11_term 60 = .ok (.aload_n 0, 1) := by decide +kernel
theorem dX11_term_61 : decode cX11_term 61 = .ok (.getfield 46, 3) := by decide +kernel
theorem dX11_term_64 : decode cX11_term 64 = .ok (.iload_n 3, 1) := by decide +kernel
theorem dX11_term_65 : decode cX11_term 65 = .ok (.invokevirtual 233, 3) := by decide +kernel
theorem dX11_term_68 : decode cX11_term 68 = .ok (.istore 6, 2) := by decide +kernel
theorem dX11_term_70 : decode cX11_term 70 = .ok (.iload 4, 2) := by decide +kernel
theorem dX11_term_72 : decode cX11_term 72 = .ok (.ifCond .ne 14, 3) := by decide +kernel
theorem dX11_term_75 : decode cX11_term 75 = .ok (.aload 5, 2) := by decide +kernel
theorem dX11_term_77 : decode cX11_term 77 = .ok (.getfield 236, 3) := by decide +kernel
theorem dX11_term_80 : decode cX11_term 80 = .ok (.iload 6, 2) := by decide +kernel
theorem dX11_term_82 : decode cX11_term 82 = .ok (.iaload, 1) := by decide +kernel
theorem dX11_term_83 : decode cX11_term 83 = .ok (.goto 18, 3) := by decide +kernel
theorem dX11_term_86 : decode cX11_term 86 = .ok (.aload 5, 2) := by decide +kernel
theorem dX11_term_88 : decode cX11_term 88 = .ok (.getfield 239, 3) := by decide +kernel
theorem dX11_term_91 : decode cX11_term 91 = .ok (.iload 6, 2) := by decide +kernel
theorem dX11_term_93 : decode cX11_term 93 = .ok (.iaload, 1) := by decide +kernel
theorem dX11_term_94 : decode cX11_term 94 = .ok (.iload 4, 2) := by decide +kernel
theorem dX11_term_96 : decode cX11_term 96 = .ok (.iconst 1, 1) := by decide +kernel
theorem dX11_term_97 : decode cX11_term 97 = .ok (.isub, 1) := by decide +kernel
theorem dX11_term_98 : decode cX11_term 98 = .ok (.invokestatic 242, 3) := by decide +kernel
theorem dX11_term_101 : decode cX11_term 101 = .ok (.ireturn, 1) := by decide +kernel
theorem dX11_number_0 : decode cX11_number 0 = .ok (.aload_n 0, 1) := by decide +kernel
theorem dX11_number_1 : decode cX11_number 1 = .ok (.iload_n 1, 1) := by decide +kernel
theorem dX11_number_2 : decode cX11_number 2 = .ok (.invokevirtual 200, 3) := by decide +kernel
theorem dX11_number_5 : decode cX11_number 5 = .ok (.astore 5, 2) := by decide +kernel
theorem dX11_number_7 : decode cX11_number 7 = .ok (.iload_n 2, 1) := by decide +kernel
theorem dX11_number_8 : decode cX11_number 8 = .ok (.ifCond .lt 12, 3) := by decide +kernel
theorem dX11_number_11 : decode cX11_number 11 = .ok (.iload_n 3, 1) := by decide +kernel
theorem dX11_number_12 : decode cX11_number 12 = .ok (.ifCond .lt 8, 3) := by decide +kernel
theorem dX11_number_15 : decode cX11_number 15 = .ok (.iload 4, 2) := by decide +kernel
theorem dX11_number_17 : decode cX11_number 17 = .ok (.ifCond .ge 13, 3) := by decide +kernel
theorem dX11_number_20 : decode cX11_number 20 = .ok (.new 96, 3) := by decide +kernel
theorem dX11_number_23 : decode cX11_number 23 = .ok (.dup, 1) := by decide +kernel
theorem dX11_number_24 : decode cX11_number 24 = .ok (.ldc 245, 2) := by decide +kernel
theorem dX11_number_26 : decode cX11_number 26 = .ok (.invokespecial 100, 3) := by decide +kernel
theorem dX11_number_29 : decode cX11_number 29 = .ok (.athrow, 1) := by decide +kernel
theorem dX11_number_30 : decode cX11_number 30 = .ok (.iload_n 2, 1) := by decide +kernel
theorem dX11_number_31 : decode cX11_number 31 = .ok (.bipush 40, 2) := by decide +kernel
theorem dX11_number_33 : decode cX11_number 33 = .ok (.if_icmp .gt 16, 3) := by decide +kernel
theorem dX11_number_36 : decode cX11_number 36 = .ok (.iload_n 3, 1) := by decide +kernel
theorem dX11_number_37 : decode cX11_number 37 = .ok (.bipush 40, 2) := by decide +kernel
theorem dX11_number_39 : decode cX11_number 39 = .ok (.if_icmp .gt 10, 3) := by decide +kernel
theorem dX11_number_42 : decode cX11_number 42 = .ok (.iload 4, 2) := by decide +kernel
theorem dX11_number_44 : decode cX11_number 44 = .ok (.bipush 40, 2) := by decide +kernel
theorem dX11_number_46 : decode cX11_number 46 = .ok (.if_icmp .le 5, 3) := by decide +kernel
theorem dX11_number_49 : decode cX11_number 49 = .ok (.iconst 0, 1) := by decide +kernel
theorem dX11_number_50 : decode cX11_number 50 = .ok (.ireturn, 1) := by decide +kernel
theorem dX11_number_51 : decode cX11_number 51 = .ok (.aload 5, 2) := by decide +kernel
theorem dX11_number_53 : decode cX11_number 53 = .ok (.iload_n 2, 1) := by decide +kernel
theorem dX11_number_54 : decode cX11_number 54 = .ok (.iload_n 3, 1) := by decide +kernel
theorem dX11_number_55 : decode cX11_number 55 = .ok (.iload 4, 2) := by decide +kernel
theorem dX11_number_57 : decode cX11_number 57 = .ok (.invokestatic 247, 3) := by decide +kernel
theorem dX11_number_60 : decode cX11_number 60 = .ok (.invokevirtual 251, 3) := by decide +kernel
theorem dX11_number_63 : decode cX11_number 63 = .ok (.ireturn, 1) := by decide +kernel
theorem dX11_value_0 : decode cX11_value 0 = .ok (.aload_n 0, 1) := by decide +kernel
theorem dX11_value_1 : decode cX11_value 1 = .ok (.iload_n 1, 1) := by decide +kernel
theorem dX11_value_2 : decode cX11_value 2 = .ok (.invokevirtual 200, 3) := by decide +kernel
theorem dX11_value_5 : decode cX11_value 5 = .ok (.astore 5, 2) := by decide +kernel
theorem dX11_value_7 : decode cX11_value 7 = .ok (.aload_n 0, 1) := by decide +kernel
theorem dX11_value_8 : decode cX11_value 8 = .ok (.getfield 25, 3) := by decide +kernel
theorem dX11_value_11 : decode cX11_value 11 = .ok (.iload_n 2, 1) := by decide +kernel
theorem dX11_value_12 : decode cX11_value 12 = .ok (.iload_n 3, 1) := by decide +kernel
theorem dX11_value_13 : decode cX11_value 13 = .ok (.iload 4, 2) := by decide +kernel
theorem dX11_value_15 : decode cX11_value 15 = .ok (.invokevirtual 162, 3) := by decide +kernel
theorem dX11_value_18 : decode cX11_value 18 = .ok (.ifCond .ne 13, 3) := by decide +kernel
theorem dX11_value_21 : decode cX11_value 21 = .ok (.new 96, 3) := by decide +kernel
theorem dX11_value_24 : decode cX11_value 24 = .ok (.dup, 1) := by decide +kernel
theorem dX11_value_25 : decode cX11_value 25 = .ok (.ldc 166, 2) := by decide +kernel
theorem dX11_value_27 : decode cX11_value 27 = .ok (.invokespecial 100, 3) := by decide +kernel
theorem dX11_value_30 : decode cX11_value 30 = .ok (.athrow, 1) := by decide +kernel
theorem dX11_value_31 : decode cX11_value 31 = .ok (.aload_n 0, 1) := by decide +kernel
theorem dX11_value_32 : decode cX11_value 32 = .ok (.getfield 25, 3) := by decide +kernel
theorem dX11_value_35 : decode cX11_value 35 = .ok (.aload 5, 2) := by decide +kernel
theorem dX11_value_37 : decode cX11_value 37 = .ok (.iload_n 2, 1) := by decide +kernel
theorem dX11_value_38 : decode cX11_value 38 = .ok (.iload_n 3, 1) := by decide +kernel
theorem dX11_value_39 : decode cX11_value 39 = .ok (.iload 4, 2) := by decide +kernel
theorem dX11_value_41 : decode cX11_value 41 = .ok (.invokevirtual 254, 3) := by decide +kernel
theorem dX11_value_44 : decode cX11_value 44 = .ok (.ireturn, 1) := by decide +kernel
theorem dX11_same_0 : decode cX11_same 0 = .ok (.aload_n 0, 1) := by decide +kernel
theorem dX11_same_1 : decode cX11_same 1 = .ok (.iload_n 1, 1) := by decide +kernel
theorem dX11_same_2 : decode cX11_same 2 = .ok (.invokevirtual 200, 3) := by decide +kernel
theorem dX11_same_5 : decode cX11_same 5 = .ok (.astore 4, 2) := by decide +kernel
theorem dX11_same_7 : decode cX11_same 7 = .ok (.aload_n 0, 1) := by decide +kernel
theorem dX11_same_8 : decode cX11_same 8 = .ok (.iload_n 2, 1) := by decide +kernel
theorem dX11_same_9 : decode cX11_same 9 = .ok (.invokevirtual 200, 3) := by decide +kernel
theorem dX11_same_12 : decode cX11_same 12 = .ok (.astore 5, 2) := by decide +kernel
theorem dX11_same_14 : decode cX11_same 14 = .ok (.iload_n 3, 1) := by decide +kernel
theorem dX11_same_15 : decode cX11_same 15 = .ok (.ifCond .eq 23, 3) := by decide +kernel
theorem dX11_same_18 : decode cX11_same 18 = .ok (.aload_n 0, 1) := by decide +kernel
theorem dX11_same_19 : decode cX11_same 19 = .ok (.aload 4, 2) := by decide +kernel
theorem dX11_same_21 : decode cX11_same 21 = .ok (.aload 5, 2) := by decide +kernel
theorem dX11_same_23 : decode cX11_same 23 = .ok (.invokevirtual 258, 3) := by decide +kernel
theorem dX11_same_26 : decode cX11_same 26 = .ok (.iconst (-1), 1) := by decide +kernel
theorem dX11_same_27 : decode cX11_same 27 = .ok (.if_icmp .ne 7, 3) := by decide +kernel
theorem dX11_same_30 : decode cX11_same 30 = .ok (.iconst 1, 1) := by decide +kernel
theorem dX11_same_31 : decode cX11_same 31 = .ok (.goto 14, 3) := by decide +kernel
theorem dX11_same_34 : decode cX11_same 34 = .ok (.iconst 0, 1) := by decide +kernel
theorem dX11_same_35 : decode cX11_same 35 = .ok (.goto 10, 3) := by decide +kernel
theorem dX11_same_38 : decode cX11_same 38 = .ok (.aload 4, 2) := by decide +kernel
theorem dX11_same_40 : decode cX11_same 40 = .ok (.aload 5, 2) := by decide +kernel
theorem dX11_same_42 : decode cX11_same 42 = .ok (.invokevirtual 262, 3) := by decide +kernel
theorem dX11_same_45 : decode cX11_same 45 = .ok (.ireturn, 1) := by decide +kernel
theorem dX11_witness_0 : decode cX11_witness 0 = .ok (.aload_n 0, 1) := by decide +kernel
theorem dX11_witness_1 : decode cX11_witness 1 = .ok (.iload_n 1, 1) := by decide +kernel
theorem dX11_witness_2 : decode cX11_witness 2 = .ok (.invokevirtual 200, 3) := by decide +kernel
theorem dX11_witness_5 : decode cX11_witness 5 = .ok (.astore_n 3, 1) := by decide +kernel
theorem dX11_witness_6 : decode cX11_witness 6 = .ok (.aload_n 0, 1) := by decide +kernel
theorem dX11_witness_7 : decode cX11_witness 7 = .ok (.iload_n 2, 1) := by decide +kernel
theorem dX11_witness_8 : decode cX11_witness 8 = .ok (.invokevirtual 200, 3) := by decide +kernel
theorem dX11_witness_11 : decode cX11_witness 11 = .ok (.astore 4, 2) := by decide +kernel
theorem dX11_witness_13 : decode cX11_witness 13 = .ok (.aload_n 0, 1) := by decide +kernel
theorem dX11_witness_14 : decode cX11_witness 14 = .ok (.aload_n 3, 1) := by decide +kernel
theorem dX11_witness_15 : decode cX11_witness 15 = .ok (.aload 4, 2) := by decide +kernel
theorem dX11_witness_17 : decode cX11_witness 17 = .ok (.invokevirtual 258, 3) := by decide +kernel
theorem dX11_witness_20 : decode cX11_witness 20 = .ok (.ireturn, 1) := by decide +kernel
theorem dX11_factor_0 : decode cX11_factor 0 = .ok (.aload_n 0, 1) := by decide +kernel
theorem dX11_factor_1 : decode cX11_factor 1 = .ok (.iload_n 1, 1) := by decide +kernel
theorem dX11_factor_2 : decode cX11_factor 2 = .ok (.invokevirtual 200, 3) := by decide +kernel
theorem dX11_factor_5 : decode cX11_factor 5 = .ok (.astore 4, 2) := by decide +kernel
theorem dX11_factor_7 : decode cX11_factor 7 = .ok (.iload_n 2, 1) := by decide +kernel
theorem dX11_factor_8 : decode cX11_factor 8 = .ok (.ifCond .lt 12, 3) := by decide +kernel
theorem dX11_factor_11 : decode cX11_factor 11 = .ok (.iload_n 3, 1) := by decide +kernel
theorem dX11_factor_12 : decode cX11_factor 12 = .ok (.ifCond .lt 8, 3) := by decide +kernel
theorem dX11_factor_15 : decode cX11_factor 15 = .ok (.iload_n 3, 1) := by decide +kernel
theorem dX11_factor_16 : decode cX11_factor 16 = .ok (.iconst 5, 1) := by decide +kernel
theorem dX11_factor_17 : decode cX11_factor 17 = .ok (.if_icmp .lt 14, 3) := by decide +kernel
theorem dX11_factor_20 : decode cX11_factor 20 = .ok (.new 133, 3) := by decide +kernel
theorem dX11_factor_23 : decode cX11_factor 23 = .ok (.dup, 1) := by decide +kernel
theorem dX11_factor_24 : decode cX11_factor 24 = .ok (.ldc_w 266, 3) := by decide +kernel
theorem dX11_factor_27 : decode cX11_factor 27 = .ok (.invokespecial 137, 3) := by decide +kernel
theorem dX11_factor_30 : decode cX11_factor 30 = .ok (.athrow, 1) := by decide +kernel
theorem dX11_factor_31 : decode cX11_factor 31 = .ok (.aload_n 0, 1) := by decide +kernel
theorem dX11_factor_32 : decode cX11_factor 32 = .ok (.getfield 39, 3) := by decide +kernel
theorem dX11_factor_35 : decode cX11_factor 35 = .ok (.aload 4, 2) := by decide +kernel
theorem dX11_factor_37 : decode cX11_factor 37 = .ok (.aload_n 0, 1) := by decide +kernel
theorem dX11_factor_38 : decode cX11_factor 38 = .ok (.getfield 25, 3) := by decide +kernel
theorem dX11_factor_41 : decode cX11_factor 41 = .ok (.getfield 83, 3) := by decide +kernel
theorem dX11_factor_44 : decode cX11_factor 44 = .ok (.invokevirtual 214, 3) := by decide +kernel
theorem dX11_factor_47 : decode cX11_factor 47 = .ok (.iload_n 2, 1) := by decide +kernel
theorem dX11_factor_48 : decode cX11_factor 48 = .ok (.aload_n 0, 1) := by decide +kernel
theorem dX11_factor_49 : decode cX11_factor 49 = .ok (.getfield 39, 3) := by decide +kernel
theorem dX11_factor_52 : decode cX11_factor 52 = .ok (.getfield 218, 3) := by decide +kernel
theorem dX11_factor_55 : decode cX11_factor 55 = .ok (.if_icmp .lt 14, 3) := by decide +kernel
theorem dX11_factor_58 : decode cX11_factor 58 = .ok (.new 133, 3) := by decide +kernel
theorem dX11_factor_61 : decode cX11_factor 61 = .ok (.dup, 1) := by decide +kernel
theorem dX11_factor_62 : decode cX11_factor 62 = .ok (.ldc_w 268, 3) := by decide +kernel
theorem dX11_factor_65 : decode cX11_factor 65 = .ok (.invokespecial 137, 3) := by decide +kernel
theorem dX11_factor_68 : decode cX11_factor 68 = .ok (.athrow, 1) := by decide +kernel
theorem dX11_factor_69 : decode cX11_factor 69 = .ok (.aload_n 0, 1) := by decide +kernel
theorem dX11_factor_70 : decode cX11_factor 70 = .ok (.getfield 39, 3) := by decide +kernel
theorem dX11_factor_73 : decode cX11_factor 73 = .ok (.getfield 270, 3) := by decide +kernel
theorem dX11_factor_76 : decode cX11_factor 76 = .ok (.iload_n 2, 1) := by decide +kernel
theorem dX11_factor_77 : decode cX11_factor 77 = .ok (.iconst 5, 1) := by decide +kernel
theorem dX11_factor_78 : decode cX11_factor 78 = .ok (.imul, 1) := by decide +kernel
theorem dX11_factor_79 : decode cX11_factor 79 = .ok (.iload_n 3, 1) := by decide +kernel
theorem dX11_factor_80 : decode cX11_factor 80 = .ok (.iadd, 1) := by decide +kernel
theorem dX11_factor_81 : decode cX11_factor 81 = .ok (.iaload, 1) := by decide +kernel
theorem dX11_factor_82 : decode cX11_factor 82 = .ok (.ireturn, 1) := by decide +kernel
theorem dX11_often_0 : decode cX11_often 0 = .ok (.aload_n 0, 1) := by decide +kernel
theorem dX11_often_1 : decode cX11_often 1 = .ok (.iload_n 1, 1) := by decide +kernel
theorem dX11_often_2 : decode cX11_often 2 = .ok (.invokevirtual 200, 3) := by decide +kernel
theorem dX11_often_5 : decode cX11_often 5 = .ok (.astore 6, 2) := by decide +kernel
theorem dX11_often_7 : decode cX11_often 7 = .ok (.aload_n 0, 1) := by decide +kernel
theorem dX11_often_8 : decode cX11_often 8 = .ok (.getfield 25, 3) := by decide +kernel
theorem dX11_often_11 : decode cX11_often 11 = .ok (.iload_n 2, 1) := by decide +kernel
theorem dX11_often_12 : decode cX11_often 12 = .ok (.iload_n 3, 1) := by decide +kernel
theorem dX11_often_13 : decode cX11_often 13 = .ok (.iload 4, 2) := by decide +kernel
theorem dX11_often_15 : decode cX11_often 15 = .ok (.iload 5, 2) := by decide +kernel
theorem dX11_often_17 : decode cX11_often 17 = .ok (.invokevirtual 273, 3) := by decide +kernel
theorem dX11_often_20 : decode cX11_often 20 = .ok (.ifCond .ne 14, 3) := by decide +kernel
theorem dX11_often_23 : decode cX11_often 23 = .ok (.new 96, 3) := by decide +kernel
theorem dX11_often_26 : decode cX11_often 26 = .ok (.dup, 1) := by decide +kernel
theorem dX11_often_27 : decode cX11_often 27 = .ok (.ldc_w 277, 3) := by decide +kernel
theorem dX11_often_30 : decode cX11_often 30 = .ok (.invokespecial 100, 3) := by decide +kernel
theorem dX11_often_33 : decode cX11_often 33 = .ok (.athrow, 1) := by decide +kernel
theorem dX11_often_34 : decode cX11_often 34 = .ok (.aload 6, 2) := by decide +kernel
theorem dX11_often_36 : decode cX11_often 36 = .ok (.getfield 146, 3) := by decide +kernel
theorem dX11_often_39 : decode cX11_often 39 = .ok (.ifCond .ne 5, 3) := by decide +kernel
theorem dX11_often_42 : decode cX11_often 42 = .ok (.iconst (-1), 1) := by decide +kernel
theorem dX11_often_43 : decode cX11_often 43 = .ok (.ireturn, 1) := by decide +kernel
theorem dX11_often_44 : decode cX11_often 44 = .ok (.aload_n 0, 1) := by decide +kernel
theorem dX11_often_45 : decode cX11_often 45 = .ok (.getfield 39, 3) := by decide +kernel
theorem dX11_often_48 : decode cX11_often 48 = .ok (.aload 6, 2) := by decide +kernel
theorem dX11_often_50 : decode cX11_often 50 = .ok (.aload_n 0, 1) := by decide +kernel
theorem dX11_often_51 : decode cX11_often 51 = .ok (.getfield 25, 3) := by decide +kernel
theorem dX11_often_54 : decode cX11_often 54 = .ok (.getfield 83, 3) := by decide +kernel
theorem dX11_often_57 : decode cX11_often 57 = .ok (.new 279, 3) := by decide +kernel
theorem dX11_often_60 : decode cX11_often 60 = .ok (.dup, 1) := by decide +kernel
theorem dX11_often_61 : decode cX11_often 61 = .ok (.iload_n 2, 1) := by decide +kernel
theorem dX11_often_62 : decode cX11_often 62 = .ok (.iload_n 3, 1) := by decide +kernel
theorem dX11_often_63 : decode cX11_often 63 = .ok (.iload 4, 2) := by decide +kernel
theorem dX11_often_65 : decode cX11_often 65 = .ok (.iload 5, 2) := by decide +kernel
theorem dX11_often_67 : decode cX11_often 67 = .ok (.invokespecial 281, 3) := by decide +kernel
theorem dX11_often_70 : decode cX11_often 70 = .ok (.invokevirtual 283, 3) := by decide +kernel
theorem dX11_often_73 : decode cX11_often 73 = .ok (.ireturn, 1) := by decide +kernel
theorem dX11_say_0 : decode cX11_say 0 = .ok (.aload_n 0, 1) := by decide +kernel
theorem dX11_say_1 : decode cX11_say 1 = .ok (.iload_n 1, 1) := by decide +kernel
theorem dX11_say_2 : decode cX11_say 2 = .ok (.invokevirtual 200, 3) := by decide +kernel
theorem dX11_say_5 : decode cX11_say 5 = .ok (.astore_n 2, 1) := by decide +kernel
theorem dX11_say_6 : decode cX11_say 6 = .ok (.aload_n 0, 1) := by decide +kernel
theorem dX11_say_7 : decode cX11_say 7 = .ok (.getfield 46, 3) := by decide +kernel
theorem dX11_say_10 : decode cX11_say 10 = .ok (.aload_n 2, 1) := by decide +kernel
theorem dX11_say_11 : decode cX11_say 11 = .ok (.iconst 0, 1) := by decide +kernel
theorem dX11_say_12 : decode cX11_say 12 = .ok (.invokevirtual 230, 3) := by decide +kernel
theorem dX11_say_15 : decode cX11_say 15 = .ok (.aload_n 0, 1) := by decide +kernel
theorem dX11_say_16 : decode cX11_say 16 = .ok (.getfield 53, 3) := by decide +kernel
theorem dX11_say_19 : decode cX11_say 19 = .ok (.aload_n 2, 1) := by decide +kernel
theorem dX11_say_20 : decode cX11_say 20 = .ok (.aload_n 0, 1) := by decide +kernel
theorem dX11_say_21 : decode cX11_say 21 = .ok (.getfield 46, 3) := by decide +kernel
theorem dX11_say_24 : decode cX11_say 24 = .ok (.invokevirtual 287, 3) := by decide +kernel
theorem dX11_say_27 : decode cX11_say 27 = .ok (.aload_n 0, 1) := by decide +kernel
theorem dX11_say_28 : decode cX11_say 28 = .ok (.getfield 53, 3) := by decide +kernel
theorem dX11_say_31 : decode cX11_say 31 = .ok (.getfield 291, 3) := by decide +kernel
theorem dX11_say_34 : decode cX11_say 34 = .ok (.ireturn, 1) := by decide +kernel
theorem dX11_said_0 : decode cX11_said 0 = .ok (.iload_n 1, 1) := by decide +kernel
theorem dX11_said_1 : decode cX11_said 1 = .ok (.ifCond .lt 14, 3) := by decide +kernel
theorem dX11_said_4 : decode cX11_said 4 = .ok (.iload_n 1, 1) := by decide +kernel
theorem dX11_said_5 : decode cX11_said 5 = .ok (.aload_n 0, 1) := by decide +kernel
theorem dX11_said_6 : decode cX11_said 6 = .ok (.getfield 53, 3) := by decide +kernel
theorem dX11_said_9 : decode cX11_said 9 = .ok (.getfield 291, 3) := by decide +kernel
theorem dX11_said_12 : decode cX11_said 12 = .ok (.if_icmp .lt 7, 3) := by decide +kernel
theorem dX11_said_15 : decode cX11_said 15 = .ok (.iconst (-1), 1) := by decide +kernel
theorem dX11_said_16 : decode cX11_said 16 = .ok (.goto 12, 3) := by decide +kernel
theorem dX11_said_19 : decode cX11_said 19 = .ok (.aload_n 0, 1) := by decide +kernel
theorem dX11_said_20 : decode cX11_said 20 = .ok (.getfield 53, 3) := by decide +kernel
theorem dX11_said_23 : decode cX11_said 23 = .ok (.getfield 294, 3) := by decide +kernel
theorem dX11_said_26 : decode cX11_said 26 = .ok (.iload_n 1, 1) := by decide +kernel
theorem dX11_said_27 : decode cX11_said 27 = .ok (.baload, 1) := by decide +kernel
theorem dX11_said_28 : decode cX11_said 28 = .ok (.ireturn, 1) := by decide +kernel
theorem dX11_isPlace_0 : decode cX11_isPlace 0 = .ok (.iload_n 0, 1) := by decide +kernel
theorem dX11_isPlace_1 : decode cX11_isPlace 1 = .ok (.ifCond .lt 13, 3) := by decide +kernel
theorem dX11_isPlace_4 : decode cX11_isPlace 4 = .ok (.iload_n 0, 1) := by decide +kernel
theorem dX11_isPlace_5 : decode cX11_isPlace 5 = .ok (.bipush 6, 2) := by decide +kernel
theorem dX11_isPlace_7 : decode cX11_isPlace 7 = .ok (.if_icmp .ge 7, 3) := by decide +kernel
theorem dX11_isPlace_10 : decode cX11_isPlace 10 = .ok (.iconst 1, 1) := by decide +kernel
theorem dX11_isPlace_11 : decode cX11_isPlace 11 = .ok (.goto 4, 3) := by decide +kernel
theorem dX11_isPlace_14 : decode cX11_isPlace 14 = .ok (.iconst 0, 1) := by decide +kernel
theorem dX11_isPlace_15 : decode cX11_isPlace 15 = .ok (.ireturn, 1) := by decide +kernel
theorem dX11_polyAt_0 : decode cX11_polyAt 0 = .ok (.iload_n 1, 1) := by decide +kernel
theorem dX11_polyAt_1 : decode cX11_polyAt 1 = .ok (.invokestatic 93, 3) := by decide +kernel
theorem dX11_polyAt_4 : decode cX11_polyAt 4 = .ok (.ifCond .ne 14, 3) := by decide +kernel
theorem dX11_polyAt_7 : decode cX11_polyAt 7 = .ok (.new 133, 3) := by decide +kernel
theorem dX11_polyAt_10 : decode cX11_polyAt 10 = .ok (.dup, 1) := by decide +kernel
theorem dX11_polyAt_11 : decode cX11_polyAt 11 = .ok (.ldc_w 298, 3) := by decide +kernel
theorem dX11_polyAt_14 : decode cX11_polyAt 14 = .ok (.invokespecial 137, 3) := by decide +kernel
theorem dX11_polyAt_17 : decode cX11_polyAt 17 = .ok (.athrow, 1) := by decide +kernel
theorem dX11_polyAt_18 : decode cX11_polyAt 18 = .ok (.aload_n 0, 1) := by decide +kernel
theorem dX11_polyAt_19 : decode cX11_polyAt 19 = .ok (.getfield 18, 3) := by decide +kernel
theorem dX11_polyAt_22 : decode cX11_polyAt 22 = .ok (.iload_n 1, 1) := by decide +kernel
theorem dX11_polyAt_23 : decode cX11_polyAt 23 = .ok (.aaload, 1) := by decide +kernel
theorem dX11_polyAt_24 : decode cX11_polyAt 24 = .ok (.areturn, 1) := by decide +kernel
theorem dX11_append_0 : decode cX11_append 0 = .ok (.bipush 24, 2) := by decide +kernel
theorem dX11_append_2 : decode cX11_append 2 = .ok (.istore_n 2, 1) := by decide +kernel
theorem dX11_append_3 : decode cX11_append 3 = .ok (.iload_n 2, 1) := by decide +kernel
theorem dX11_append_4 : decode cX11_append 4 = .ok (.ifCond .lt 35, 3) := by decide +kernel
theorem dX11_append_7 : decode cX11_append 7 = .ok (.aload_n 0, 1) := by decide +kernel
theorem dX11_append_8 : decode cX11_append 8 = .ok (.getfield 64, 3) := by decide +kernel
theorem dX11_append_11 : decode cX11_append 11 = .ok (.aload_n 0, 1) := by decide +kernel
theorem dX11_append_12 : decode cX11_append 12 = .ok (.getfield 68, 3) := by decide +kernel
theorem dX11_append_15 : decode cX11_append 15 = .ok (.iload_n 1, 1) := by decide +kernel
theorem dX11_append_16 : decode cX11_append 16 = .ok (.iload_n 2, 1) := by decide +kernel
theorem dX11_append_17 : decode cX11_append 17 = .ok (.ishr, 1) := by decide +kernel
theorem dX11_append_18 : decode cX11_append 18 = .ok (.sipush 255, 3) := by decide +kernel
theorem dX11_append_21 : decode cX11_append 21 = .ok (.iand, 1) := by decide +kernel
theorem dX11_append_22 : decode cX11_append 22 = .ok (.iastore, 1) := by decide +kernel
theorem dX11_append_23 : decode cX11_append 23 = .ok (.aload_n 0, 1) := by decide +kernel
theorem dX11_append_24 : decode cX11_append 24 = .ok (.dup, 1) := by decide +kernel
theorem dX11_append_25 : decode cX11_append 25 = .ok (.getfield 68, 3) := by decide +kernel
theorem dX11_append_28 : decode cX11_append 28 = .ok (.iconst 1, 1) := by decide +kernel
theorem dX11_append_29 : decode cX11_append 29 = .ok (.iadd, 1) := by decide +kernel
theorem dX11_append_30 : decode cX11_append 30 = .ok (.putfield 68, 3) := by decide +kernel
theorem dX11_append_33 : decode cX11_append 33 = .ok (.iinc 2 (-8), 3) := by decide +kernel
theorem dX11_append_36 : decode cX11_append 36 = .ok (.goto (-33), 3) := by decide +kernel
theorem dX11_append_39 : decode cX11_append 39 = .ok (.return_, 1) := by decide +kernel
theorem dX11_keep_0 : decode cX11_keep 0 = .ok (.aload_n 2, 1) := by decide +kernel
theorem dX11_keep_1 : decode cX11_keep 1 = .ok (.ifnonnull 6, 3) := by decide +kernel
theorem dX11_keep_4 : decode cX11_keep 4 = .ok (.bipush (-2), 2) := by decide +kernel
theorem dX11_keep_6 : decode cX11_keep 6 = .ok (.ireturn, 1) := by decide +kernel
theorem dX11_keep_7 : decode cX11_keep 7 = .ok (.aload_n 0, 1) := by decide +kernel
theorem dX11_keep_8 : decode cX11_keep 8 = .ok (.getfield 60, 3) := by decide +kernel
theorem dX11_keep_11 : decode cX11_keep 11 = .ok (.iload_n 1, 1) := by decide +kernel
theorem dX11_keep_12 : decode cX11_keep 12 = .ok (.aload_n 0, 1) := by decide +kernel
theorem dX11_keep_13 : decode cX11_keep 13 = .ok (.getfield 18, 3) := by decide +kernel
theorem dX11_keep_16 : decode cX11_keep 16 = .ok (.iload_n 1, 1) := by decide +kernel
theorem dX11_keep_17 : decode cX11_keep 17 = .ok (.aaload, 1) := by decide +kernel
theorem dX11_keep_18 : decode cX11_keep 18 = .ok (.invokevirtual 300, 3) := by decide +kernel
theorem dX11_keep_21 : decode cX11_keep 21 = .ok (.aload_n 0, 1) := by decide +kernel
theorem dX11_keep_22 : decode cX11_keep 22 = .ok (.getfield 18, 3) := by decide +kernel
theorem dX11_keep_25 : decode cX11_keep 25 = .ok (.iload_n 1, 1) := by decide +kernel
theorem dX11_keep_26 : decode cX11_keep 26 = .ok (.aload_n 2, 1) := by decide +kernel
theorem dX11_keep_27 : decode cX11_keep 27 = .ok (.aastore, 1) := by decide +kernel
theorem dX11_keep_28 : decode cX11_keep 28 = .ok (.aload_n 2, 1) := by decide +kernel
theorem dX11_keep_29 : decode cX11_keep 29 = .ok (.getfield 146, 3) := by decide +kernel
theorem dX11_keep_32 : decode cX11_keep 32 = .ok (.ireturn, 1) := by decide +kernel
theorem dX11_canMake_0 : decode cX11_canMake 0 = .ok (.iload_n 1, 1) := by decide +kernel
theorem dX11_canMake_1 : decode cX11_canMake 1 = .ok (.tableswitch 179 0 9 #[55, 55, 55, 60, 75, 91, 107, 109, 127, 164], 55) := by decide +kernel
theorem dX11_canMake_56 : decode cX11_canMake 56 = .ok (.iload_n 3, 1) := by decide +kernel
theorem dX11_canMake_57 : decode cX11_canMake 57 = .ok (.invokestatic 93, 3) := by decide +kernel
theorem dX11_canMake_60 : decode cX11_canMake 60 = .ok (.ireturn, 1) := by decide +kernel
theorem dX11_canMake_61 : decode cX11_canMake 61 = .ok (.iload_n 3, 1) := by decide +kernel
theorem dX11_canMake_62 : decode cX11_canMake 62 = .ok (.ifCond .lt 12, 3) := by decide +kernel
theorem dX11_canMake_65 : decode cX11_canMake 65 = .ok (.iload_n 3, 1) := by decide +kernel
theorem dX11_canMake_66 : decode cX11_canMake 66 = .ok (.iconst 3, 1) := by decide +kernel
theorem dX11_canMake_67 : decode cX11_canMake 67 = .ok (.if_icmp .ge 7, 3) := by decide +kernel
theorem dX11_canMake_70 : decode cX11_canMake 70 = .ok (.iconst 1, 1) := by decide +kernel
theorem dX11_canMake_71 : decode cX11_canMake 71 = .ok (.goto 4, 3) := by decide +kernel
theorem dX11_canMake_74 : decode cX11_canMake 74 = .ok (.iconst 0, 1) := by decide +kernel
theorem dX11_canMake_75 : decode cX11_canMake 75 = .ok (.ireturn, 1) := by decide +kernel
theorem dX11_canMake_76 : decode cX11_canMake 76 = .ok (.iload_n 3, 1) := by decide +kernel
theorem dX11_canMake_77 : decode cX11_canMake 77 = .ok (.ifCond .lt 13, 3) := by decide +kernel
theorem dX11_canMake_80 : decode cX11_canMake 80 = .ok (.iload_n 3, 1) := by decide +kernel
theorem dX11_canMake_81 : decode cX11_canMake 81 = .ok (.bipush 9, 2) := by decide +kernel
theorem dX11_canMake_83 : decode cX11_canMake 83 = .ok (.if_icmp .gt 7, 3) := by decide +kernel
theorem dX11_canMake_86 : decode cX11_canMake 86 = .ok (.iconst 1, 1) := by decide +kernel
theorem dX11_canMake_87 : decode cX11_canMake 87 = .ok (.goto 4, 3) := by decide +kernel
theorem dX11_canMake_90 : decode cX11_canMake 90 = .ok (.iconst 0, 1) := by decide +kernel
theorem dX11_canMake_91 : decode cX11_canMake 91 = .ok (.ireturn, 1) := by decide +kernel
theorem dX11_canMake_92 : decode cX11_canMake 92 = .ok (.iload_n 3, 1) := by decide +kernel
theorem dX11_canMake_93 : decode cX11_canMake 93 = .ok (.ifCond .lt 13, 3) := by decide +kernel
theorem dX11_canMake_96 : decode cX11_canMake 96 = .ok (.iload_n 3, 1) := by decide +kernel
theorem dX11_canMake_97 : decode cX11_canMake 97 = .ok (.bipush 120, 2) := by decide +kernel
theorem dX11_canMake_99 : decode cX11_canMake 99 = .ok (.if_icmp .gt 7, 3) := by decide +kernel
theorem dX11_canMake_102 : decode cX11_canMake 102 = .ok (.iconst 1, 1) := by decide +kernel
theorem dX11_canMake_103 : decode cX11_canMake 103 = .ok (.goto 4, 3) := by decide +kernel
theorem dX11_canMake_106 : decode cX11_canMake 106 = .ok (.iconst 0, 1) := by decide +kernel
theorem dX11_canMake_107 : decode cX11_canMake 107 = .ok (.ireturn, 1) := by decide +kernel
theorem dX11_canMake_108 : decode cX11_canMake 108 = .ok (.iconst 1, 1) := by decide +kernel
theorem dX11_canMake_109 : decode cX11_canMake 109 = .ok (.ireturn, 1) := by decide +kernel
theorem dX11_canMake_110 : decode cX11_canMake 110 = .ok (.aload_n 0, 1) := by decide +kernel
theorem dX11_canMake_111 : decode cX11_canMake 111 = .ok (.getfield 18, 3) := by decide +kernel
theorem dX11_canMake_114 : decode cX11_canMake 114 = .ok (.iload_n 2, 1) := by decide +kernel
theorem dX11_canMake_115 : decode cX11_canMake 115 = .ok (.aaload, 1) := by decide +kernel
theorem dX11_canMake_116 : decode cX11_canMake 116 = .ok (.getfield 146, 3) := by decide +kernel
theorem dX11_canMake_119 : decode cX11_canMake 119 = .ok (.ifCond .le 7, 3) := by decide +kernel
theorem dX11_canMake_122 : decode cX11_canMake 122 = .ok (.iconst 1, 1) := by decide +kernel
theorem dX11_canMake_123 : decode cX11_canMake 123 = .ok (.goto 4, 3) := by decide +kernel
theorem dX11_canMake_126 : decode cX11_canMake 126 = .ok (.iconst 0, 1) := by decide +kernel
theorem dX11_canMake_127 : decode cX11_canMake 127 = .ok (.ireturn, 1) := by decide +kernel
theorem dX11_canMake_128 : decode cX11_canMake 128 = .ok (.iload_n 3, 1) := by decide +kernel
theorem dX11_canMake_129 : decode cX11_canMake 129 = .ok (.invokestatic 93, 3) := by decide +kernel
theorem dX11_canMake_132 : decode cX11_canMake 132 = .ok (.ifCond .eq 31, 3) := by decide +kernel
theorem dX11_canMake_135 : decode cX11_canMake 135 = .ok (.aload_n 0, 1) := by decide +kernel
theorem dX11_canMake_136 : decode cX11_canMake 136 = .ok (.getfield 18, 3) := by decide +kernel
theorem dX11_canMake_139 : decode cX11_canMake 139 = .ok (.iload_n 2, 1) := by decide +kernel
theorem dX11_canMake_140 : decode cX11_canMake 140 = .ok (.aaload, 1) := by decide +kernel
theorem dX11_canMake_141 : decode cX11_canMake 141 = .ok (.invokevirtual 304, 3) := by decide +kernel
theorem dX11_canMake_144 : decode cX11_canMake 144 = .ok (.ifCond .eq 19, 3) := by decide +kernel
theorem dX11_canMake_147 : decode cX11_canMake 147 = .ok (.aload_n 0, 1) := by decide +kernel
theorem dX11_canMake_148 : decode cX11_canMake 148 = .ok (.getfield 18, 3) := by decide +kernel
theorem dX11_canMake_151 : decode cX11_canMake 151 = .ok (.iload_n 3, 1) := by decide +kernel
theorem dX11_canMake_152 : decode cX11_canMake 152 = .ok (.aaload, 1) := by decide +kernel
theorem dX11_canMake_153 : decode cX11_canMake 153 = .ok (.invokevirtual 304, 3) := by decide +kernel
theorem dX11_canMake_156 : decode cX11_canMake 156 = .ok (.ifCond .eq 7, 3) := by decide +kernel
theorem dX11_canMake_159 : decode cX11_canMake 159 = .ok (.iconst 1, 1) := by decide +kernel
theorem dX11_canMake_160 : decode cX11_canMake 160 = .ok (.goto 4, 3) := by decide +kernel
theorem dX11_canMake_163 : decode cX11_canMake 163 = .ok (.iconst 0, 1) := by decide +kernel
theorem dX11_canMake_164 : decode cX11_canMake 164 = .ok (.ireturn, 1) := by decide +kernel
theorem dX11_canMake_165 : decode cX11_canMake 165 = .ok (.iload_n 3, 1) := by decide +kernel
theorem dX11_canMake_166 : decode cX11_canMake 166 = .ok (.ifCond .lt 12, 3) := by decide +kernel
theorem dX11_canMake_169 : decode cX11_canMake 169 = .ok (.iload_n 3, 1) := by decide +kernel
theorem dX11_canMake_170 : decode cX11_canMake 170 = .ok (.iconst 5, 1) := by decide +kernel
theorem dX11_canMake_171 : decode cX11_canMake 171 = .ok (.if_icmp .gt 7, 3) := by decide +kernel
theorem dX11_canMake_174 : decode cX11_canMake 174 = .ok (.iconst 1, 1) := by decide +kernel
theorem dX11_canMake_175 : decode cX11_canMake 175 = .ok (.goto 4, 3) := by decide +kernel
theorem dX11_canMake_178 : decode cX11_canMake 178 = .ok (.iconst 0, 1) := by decide +kernel
theorem dX11_canMake_179 : decode cX11_canMake 179 = .ok (.ireturn, 1) := by decide +kernel
theorem dX11_canMake_180 : decode cX11_canMake 180 = .ok (.iconst 0, 1) := by decide +kernel
theorem dX11_canMake_181 : decode cX11_canMake 181 = .ok (.ireturn, 1) := by decide +kernel
theorem dX11_made_0 : decode cX11_made 0 = .ok (.iload_n 1, 1) := by decide +kernel
theorem dX11_made_1 : decode cX11_made 1 = .ok (.tableswitch 183 0 8 #[51, 67, 91, 106, 116, 126, 136, 145, 168], 51) := by decide +kernel
theorem dX11_made_52 : decode cX11_made 52 = .ok (.aload_n 0, 1) := by decide +kernel
theorem dX11_made_53 : decode cX11_made 53 = .ok (.getfield 25, 3) := by decide +kernel
theorem dX11_made_56 : decode cX11_made 56 = .ok (.aload_n 2, 1) := by decide +kernel
theorem dX11_made_57 : decode cX11_made 57 = .ok (.aload_n 0, 1) := by decide +kernel
theorem dX11_made_58 : decode cX11_made 58 = .ok (.getfield 18, 3) := by decide +kernel
theorem dX11_made_61 : decode cX11_made 61 = .ok (.iload_n 3, 1) := by decide +kernel
theorem dX11_made_62 : decode cX11_made 62 = .ok (.aaload, 1) := by decide +kernel
theorem dX11_made_63 : decode cX11_made 63 = .ok (.iconst 1, 1) := by decide +kernel
theorem dX11_made_64 : decode cX11_made 64 = .ok (.invokevirtual 307, 3) := by decide +kernel
theorem dX11_made_67 : decode cX11_made 67 = .ok (.areturn, 1) := by decide +kernel
theorem dX11_made_68 : decode cX11_made 68 = .ok (.aload_n 0, 1) := by decide +kernel
theorem dX11_made_69 : decode cX11_made 69 = .ok (.getfield 25, 3) := by decide +kernel
theorem dX11_made_72 : decode cX11_made 72 = .ok (.aload_n 2, 1) := by decide +kernel
theorem dX11_made_73 : decode cX11_made 73 = .ok (.aload_n 0, 1) := by decide +kernel
theorem dX11_made_74 : decode cX11_made 74 = .ok (.getfield 18, 3) := by decide +kernel
theorem dX11_made_77 : decode cX11_made 77 = .ok (.iload_n 3, 1) := by decide +kernel
theorem dX11_made_78 : decode cX11_made 78 = .ok (.aaload, 1) := by decide +kernel
theorem dX11_made_79 : decode cX11_made 79 = .ok (.aload_n 0, 1) := by decide +kernel
theorem dX11_made_80 : decode cX11_made 80 = .ok (.getfield 25, 3) := by decide +kernel
theorem dX11_made_83 : decode cX11_made 83 = .ok (.getfield 83, 3) := by decide +kernel
theorem dX11_made_86 : decode cX11_made 86 = .ok (.iconst 1, 1) := by decide +kernel
theorem dX11_made_87 : decode cX11_made 87 = .ok (.isub, 1) := by decide +kernel
theorem dX11_made_88 : decode cX11_made 88 = .ok (.invokevirtual 307, 3) := by decide +kernel
theorem dX11_made_91 : decode cX11_made 91 = .ok (.areturn, 1) := by decide +kernel
theorem dX11_made_92 : decode cX11_made 92 = .ok (.aload_n 0, 1) := by decide +kernel
theorem dX11_made_93 : decode cX11_made 93 = .ok (.getfield 25, 3) := by decide +kernel
theorem dX11_made_96 : decode cX11_made 96 = .ok (.aload_n 2, 1) := by decide +kernel
theorem dX11_made_97 : decode cX11_made 97 = .ok (.aload_n 0, 1) := by decide +kernel
theorem dX11_made_98 : decode cX11_made 98 = .ok (.getfield 18, 3) := by decide +kernel
theorem dX11_made_101 : decode cX11_made 101 = .ok (.iload_n 3, 1) := by decide +kernel
theorem dX11_made_102 : decode cX11_made 102 = .ok (.aaload, 1) := by decide +kernel
theorem dX11_made_103 : decode cX11_made 103 = .ok (.invokevirtual 311, 3) := by decide +kernel
theorem dX11_made_106 : decode cX11_made 106 = .ok (.areturn, 1) := by decide +kernel
theorem dX11_made_107 : decode cX11_made 107 = .ok (.aload_n 0, 1) := by decide +kernel
theorem dX11_made_108 : decode cX11_made 108 = .ok (.getfield 25, 3) := by decide +kernel
theorem dX11_made_111 : decode cX11_made 111 = .ok (.aload_n 2, 1) := by decide +kernel
theorem dX11_made_112 : decode cX11_made 112 = .ok (.iload_n 3, 1) := by decide +kernel
theorem dX11_made_113 : decode cX11_made 113 = .ok (.invokevirtual 315, 3) := by decide +kernel
theorem dX11_made_116 : decode cX11_made 116 = .ok (.areturn, 1) := by decide +kernel
theorem dX11_made_117 : decode cX11_made 117 = .ok (.aload_n 0, 1) := by decide +kernel
theorem dX11_made_118 : decode cX11_made 118 = .ok (.getfield 25, 3) := by decide +kernel
theorem dX11_made_121 : decode cX11_made 121 = .ok (.aload_n 2, 1) := by decide +kernel
theorem dX11_made_122 : decode cX11_made 122 = .ok (.iload_n 3, 1) := by decide +kernel
theorem dX11_made_123 : decode cX11_made 123 = .ok (.invokevirtual 319, 3) := by decide +kernel
theorem dX11_made_126 : decode cX11_made 126 = .ok (.areturn, 1) := by decide +kernel
theorem dX11_made_127 : decode cX11_made 127 = .ok (.aload_n 0, 1) := by decide +kernel
theorem dX11_made_128 : decode cX11_made 128 = .ok (.getfield 25, 3) := by decide +kernel
theorem dX11_made_131 : decode cX11_made 131 = .ok (.aload_n 2, 1) := by decide +kernel
theorem dX11_made_132 : decode cX11_made 132 = .ok (.iload_n 3, 1) := by decide +kernel
theorem dX11_made_133 : decode cX11_made 133 = .ok (.invokevirtual 322, 3) := by decide +kernel
theorem dX11_made_136 : decode cX11_made 136 = .ok (.areturn, 1) := by decide +kernel
theorem dX11_made_137 : decode cX11_made 137 = .ok (.aload_n 0, 1) := by decide +kernel
theorem dX11_made_138 : decode cX11_made 138 = .ok (.getfield 25, 3) := by decide +kernel
theorem dX11_made_141 : decode cX11_made 141 = .ok (.aload_n 2, 1) := by decide +kernel
theorem dX11_made_142 : decode cX11_made 142 = .ok (.invokevirtual 325, 3) := by decide +kernel
theorem dX11_made_145 : decode cX11_made 145 = .ok (.areturn, 1) := by decide +kernel
theorem dX11_made_146 : decode cX11_made 146 = .ok (.aload_n 0, 1) := by decide +kernel
theorem dX11_made_147 : decode cX11_made 147 = .ok (.getfield 39, 3) := by decide +kernel
theorem dX11_made_150 : decode cX11_made 150 = .ok (.aload_n 2, 1) := by decide +kernel
theorem dX11_made_151 : decode cX11_made 151 = .ok (.aload_n 0, 1) := by decide +kernel
theorem dX11_made_152 : decode cX11_made 152 = .ok (.getfield 25, 3) := by decide +kernel
theorem dX11_made_155 : decode cX11_made 155 = .ok (.getfield 83, 3) := by decide +kernel
theorem dX11_made_158 : decode cX11_made 158 = .ok (.invokevirtual 214, 3) := by decide +kernel
theorem dX11_made_161 : decode cX11_made 161 = .ok (.aload_n 0, 1) := by decide +kernel
theorem dX11_made_162 : decode cX11_made 162 = .ok (.getfield 39, 3) := by decide +kernel
theorem dX11_made_165 : decode cX11_made 165 = .ok (.invokevirtual 329, 3) := by decide +kernel
theorem dX11_made_168 : decode cX11_made 168 = .ok (.areturn, 1) := by decide +kernel
theorem dX11_made_169 : decode cX11_made 169 = .ok (.aload_n 0, 1) := by decide +kernel
theorem dX11_made_170 : decode cX11_made 170 = .ok (.getfield 25, 3) := by decide +kernel
theorem dX11_made_173 : decode cX11_made 173 = .ok (.aload_n 2, 1) := by decide +kernel
theorem dX11_made_174 : decode cX11_made 174 = .ok (.aload_n 0, 1) := by decide +kernel
theorem dX11_made_175 : decode cX11_made 175 = .ok (.getfield 18, 3) := by decide +kernel
theorem dX11_made_178 : decode cX11_made 178 = .ok (.iload_n 3, 1) := by decide +kernel
theorem dX11_made_179 : decode cX11_made 179 = .ok (.aaload, 1) := by decide +kernel
theorem dX11_made_180 : decode cX11_made 180 = .ok (.invokevirtual 333, 3) := by decide +kernel
theorem dX11_made_183 : decode cX11_made 183 = .ok (.areturn, 1) := by decide +kernel
theorem dX11_made_184 : decode cX11_made 184 = .ok (.aload_n 0, 1) := by decide +kernel
theorem dX11_made_185 : decode cX11_made 185 = .ok (.getfield 25, 3) := by decide +kernel
theorem dX11_made_188 : decode cX11_made 188 = .ok (.aload_n 2, 1) := by decide +kernel
theorem dX11_made_189 : decode cX11_made 189 = .ok (.iload_n 3, 1) := by decide +kernel
theorem dX11_made_190 : decode cX11_made 190 = .ok (.invokevirtual 336, 3) := by decide +kernel
theorem dX11_made_193 : decode cX11_made 193 = .ok (.areturn, 1) := by decide +kernel
theorem dX11_firstUnlike_0 : decode cX11_firstUnlike 0 = .ok (.aload_n 0, 1) := by decide +kernel
theorem dX11_firstUnlike_1 : decode cX11_firstUnlike 1 = .ok (.getfield 32, 3) := by decide +kernel
theorem dX11_firstUnlike_4 : decode cX11_firstUnlike 4 = .ok (.aload_n 1, 1) := by decide +kernel
theorem dX11_firstUnlike_5 : decode cX11_firstUnlike 5 = .ok (.aload_n 2, 1) := by decide +kernel
theorem dX11_firstUnlike_6 : decode cX11_firstUnlike 6 = .ok (.aload_n 0, 1) := by decide +kernel
theorem dX11_firstUnlike_7 : decode cX11_firstUnlike 7 = .ok (.getfield 25, 3) := by decide +kernel
theorem dX11_firstUnlike_10 : decode cX11_firstUnlike 10 = .ok (.getfield 83, 3) := by decide +kernel
theorem dX11_firstUnlike_13 : decode cX11_firstUnlike 13 = .ok (.invokevirtual 207, 3) := by decide +kernel
theorem dX11_firstUnlike_16 : decode cX11_firstUnlike 16 = .ok (.aload_n 0, 1) := by decide +kernel
theorem dX11_firstUnlike_17 : decode cX11_firstUnlike 17 = .ok (.getfield 32, 3) := by decide +kernel
theorem dX11_firstUnlike_20 : decode cX11_firstUnlike 20 = .ok (.invokevirtual 339, 3) := by decide +kernel
theorem dX11_firstUnlike_23 : decode cX11_firstUnlike 23 = .ok (.ireturn, 1) := by decide +kernel
theorem dL_tell_0 : decode cL_tell 0 = .ok (.aload_n 3, 1) := by decide +kernel
theorem dL_tell_1 : decode cL_tell 1 = .ok (.iconst 0, 1) := by decide +kernel
theorem dL_tell_2 : decode cL_tell 2 = .ok (.aload_n 0, 1) := by decide +kernel
theorem dL_tell_3 : decode cL_tell 3 = .ok (.iload_n 1, 1) := by decide +kernel
theorem dL_tell_4 : decode cL_tell 4 = .ok (.iload_n 2, 1) := by decide +kernel
theorem dL_tell_5 : decode cL_tell 5 = .ok (.invokevirtual 7, 3) := by decide +kernel
theorem dL_tell_8 : decode cL_tell 8 = .ok (.i2l, 1) := by decide +kernel
theorem dL_tell_9 : decode cL_tell 9 = .ok (.lastore, 1) := by decide +kernel
theorem dL_tell_10 : decode cL_tell 10 = .ok (.goto 7, 3) := by decide +kernel
theorem dL_tell_13 : decode cL_tell 13 = .ok (.astore 4, 2) := by decide +kernel
theorem dL_tell_15 : decode cL_tell 15 = .ok (.iconst 1, 1) := by decide +kernel
theorem dL_tell_16 : decode cL_tell 16 = .ok (.ireturn, 1) := by decide +kernel
theorem dL_tell_17 : decode cL_tell 17 = .ok (.iconst 0, 1) := by decide +kernel
theorem dL_tell_18 : decode cL_tell 18 = .ok (.ireturn, 1) := by decide +kernel
theorem dL_count_0 : decode cL_count 0 = .ok (.aload_n 2, 1) := by decide +kernel
theorem dL_count_1 : decode cL_count 1 = .ok (.iconst 0, 1) := by decide +kernel
theorem dL_count_2 : decode cL_count 2 = .ok (.aload_n 0, 1) := by decide +kernel
theorem dL_count_3 : decode cL_count 3 = .ok (.iload_n 1, 1) := by decide +kernel
theorem dL_count_4 : decode cL_count 4 = .ok (.invokevirtual 15, 3) := by decide +kernel
theorem dL_count_7 : decode cL_count 7 = .ok (.i2l, 1) := by decide +kernel
theorem dL_count_8 : decode cL_count 8 = .ok (.lastore, 1) := by decide +kernel
theorem dL_count_9 : decode cL_count 9 = .ok (.goto 6, 3) := by decide +kernel
theorem dL_count_12 : decode cL_count 12 = .ok (.astore_n 3, 1) := by decide +kernel
theorem dL_count_13 : decode cL_count 13 = .ok (.iconst 1, 1) := by decide +kernel
theorem dL_count_14 : decode cL_count 14 = .ok (.ireturn, 1) := by decide +kernel
theorem dL_count_15 : decode cL_count 15 = .ok (.iconst 0, 1) := by decide +kernel
theorem dL_count_16 : decode cL_count 16 = .ok (.ireturn, 1) := by decide +kernel
theorem dL_step_0 : decode cL_step 0 = .ok (.aload_n 3, 1) := by decide +kernel
theorem dL_step_1 : decode cL_step 1 = .ok (.iconst 0, 1) := by decide +kernel
theorem dL_step_2 : decode cL_step 2 = .ok (.aload_n 0, 1) := by decide +kernel
theorem dL_step_3 : decode cL_step 3 = .ok (.iload_n 1, 1) := by decide +kernel
theorem dL_step_4 : decode cL_step 4 = .ok (.iload_n 2, 1) := by decide +kernel
theorem dL_step_5 : decode cL_step 5 = .ok (.invokevirtual 21, 3) := by decide +kernel
theorem dL_step_8 : decode cL_step 8 = .ok (.i2l, 1) := by decide +kernel
theorem dL_step_9 : decode cL_step 9 = .ok (.lastore, 1) := by decide +kernel
theorem dL_step_10 : decode cL_step 10 = .ok (.goto 7, 3) := by decide +kernel
theorem dL_step_13 : decode cL_step 13 = .ok (.astore 4, 2) := by decide +kernel
theorem dL_step_15 : decode cL_step 15 = .ok (.iconst 1, 1) := by decide +kernel
theorem dL_step_16 : decode cL_step 16 = .ok (.ireturn, 1) := by decide +kernel
theorem dL_step_17 : decode cL_step 17 = .ok (.iconst 0, 1) := by decide +kernel
theorem dL_step_18 : decode cL_step 18 = .ok (.ireturn, 1) := by decide +kernel
theorem dL_at_0 : decode cL_at 0 = .ok (.aload 6, 2) := by decide +kernel
theorem dL_at_2 : decode cL_at 2 = .ok (.iconst 0, 1) := by decide +kernel
theorem dL_at_3 : decode cL_at 3 = .ok (.aload_n 0, 1) := by decide +kernel
theorem dL_at_4 : decode cL_at 4 = .ok (.iload_n 1, 1) := by decide +kernel
theorem dL_at_5 : decode cL_at 5 = .ok (.iload_n 2, 1) := by decide +kernel
theorem dL_at_6 : decode cL_at 6 = .ok (.iload_n 3, 1) := by decide +kernel
theorem dL_at_7 : decode cL_at 7 = .ok (.iload 4, 2) := by decide +kernel
theorem dL_at_9 : decode cL_at 9 = .ok (.iload 5, 2) := by decide +kernel
theorem dL_at_11 : decode cL_at 11 = .ok (.invokevirtual 24, 3) := by decide +kernel
theorem dL_at_14 : decode cL_at 14 = .ok (.i2l, 1) := by decide +kernel
theorem dL_at_15 : decode cL_at 15 = .ok (.lastore, 1) := by decide +kernel
theorem dL_at_16 : decode cL_at 16 = .ok (.goto 11, 3) := by decide +kernel
theorem dL_at_19 : decode cL_at 19 = .ok (.astore 7, 2) := by decide +kernel
theorem dL_at_21 : decode cL_at 21 = .ok (.iconst 1, 1) := by decide +kernel
theorem dL_at_22 : decode cL_at 22 = .ok (.ireturn, 1) := by decide +kernel
theorem dL_at_23 : decode cL_at 23 = .ok (.astore 7, 2) := by decide +kernel
theorem dL_at_25 : decode cL_at 25 = .ok (.iconst 2, 1) := by decide +kernel
theorem dL_at_26 : decode cL_at 26 = .ok (.ireturn, 1) := by decide +kernel
theorem dL_at_27 : decode cL_at 27 = .ok (.iconst 0, 1) := by decide +kernel
theorem dL_at_28 : decode cL_at 28 = .ok (.ireturn, 1) := by decide +kernel
theorem dL_fit_0 : decode cL_fit 0 = .ok (.aload_n 2, 1) := by decide +kernel
theorem dL_fit_1 : decode cL_fit 1 = .ok (.iconst 0, 1) := by decide +kernel
theorem dL_fit_2 : decode cL_fit 2 = .ok (.aload_n 0, 1) := by decide +kernel
theorem dL_fit_3 : decode cL_fit 3 = .ok (.iload_n 1, 1) := by decide +kernel
theorem dL_fit_4 : decode cL_fit 4 = .ok (.invokevirtual 28, 3) := by decide +kernel
theorem dL_fit_7 : decode cL_fit 7 = .ok (.i2l, 1) := by decide +kernel
theorem dL_fit_8 : decode cL_fit 8 = .ok (.lastore, 1) := by decide +kernel
theorem dL_fit_9 : decode cL_fit 9 = .ok (.goto 6, 3) := by decide +kernel
theorem dL_fit_12 : decode cL_fit 12 = .ok (.astore_n 3, 1) := by decide +kernel
theorem dL_fit_13 : decode cL_fit 13 = .ok (.iconst 1, 1) := by decide +kernel
theorem dL_fit_14 : decode cL_fit 14 = .ok (.ireturn, 1) := by decide +kernel
theorem dL_fit_15 : decode cL_fit 15 = .ok (.iconst 0, 1) := by decide +kernel
theorem dL_fit_16 : decode cL_fit 16 = .ok (.ireturn, 1) := by decide +kernel
theorem dL_of_0 : decode cL_of 0 = .ok (.aload_n 3, 1) := by decide +kernel
theorem dL_of_1 : decode cL_of 1 = .ok (.iconst 0, 1) := by decide +kernel
theorem dL_of_2 : decode cL_of 2 = .ok (.aload_n 0, 1) := by decide +kernel
theorem dL_of_3 : decode cL_of 3 = .ok (.iload_n 1, 1) := by decide +kernel
theorem dL_of_4 : decode cL_of 4 = .ok (.iload_n 2, 1) := by decide +kernel
theorem dL_of_5 : decode cL_of 5 = .ok (.invokevirtual 31, 3) := by decide +kernel
theorem dL_of_8 : decode cL_of 8 = .ok (.i2l, 1) := by decide +kernel
theorem dL_of_9 : decode cL_of 9 = .ok (.lastore, 1) := by decide +kernel
theorem dL_of_10 : decode cL_of 10 = .ok (.goto 7, 3) := by decide +kernel
theorem dL_of_13 : decode cL_of 13 = .ok (.astore 4, 2) := by decide +kernel
theorem dL_of_15 : decode cL_of 15 = .ok (.iconst 1, 1) := by decide +kernel
theorem dL_of_16 : decode cL_of 16 = .ok (.ireturn, 1) := by decide +kernel
theorem dL_of_17 : decode cL_of 17 = .ok (.iconst 0, 1) := by decide +kernel
theorem dL_of_18 : decode cL_of 18 = .ok (.ireturn, 1) := by decide +kernel
theorem dL_term_0 : decode cL_term 0 = .ok (.aload 5, 2) := by decide +kernel
theorem dL_term_2 : decode cL_term 2 = .ok (.iconst 0, 1) := by decide +kernel
theorem dL_term_3 : decode cL_term 3 = .ok (.aload_n 0, 1) := by decide +kernel
theorem dL_term_4 : decode cL_term 4 = .ok (.iload_n 1, 1) := by decide +kernel
theorem dL_term_5 : decode cL_term 5 = .ok (.iload_n 2, 1) := by decide +kernel
theorem dL_term_6 : decode cL_term 6 = .ok (.iload_n 3, 1) := by decide +kernel
theorem dL_term_7 : decode cL_term 7 = .ok (.iload 4, 2) := by decide +kernel
theorem dL_term_9 : decode cL_term 9 = .ok (.invokevirtual 34, 3) := by decide +kernel
theorem dL_term_12 : decode cL_term 12 = .ok (.i2l, 1) := by decide +kernel
theorem dL_term_13 : decode cL_term 13 = .ok (.lastore, 1) := by decide +kernel
theorem dL_term_14 : decode cL_term 14 = .ok (.goto 7, 3) := by decide +kernel
theorem dL_term_17 : decode cL_term 17 = .ok (.astore 6, 2) := by decide +kernel
theorem dL_term_19 : decode cL_term 19 = .ok (.iconst 1, 1) := by decide +kernel
theorem dL_term_20 : decode cL_term 20 = .ok (.ireturn, 1) := by decide +kernel
theorem dL_term_21 : decode cL_term 21 = .ok (.iconst 0, 1) := by decide +kernel
theorem dL_term_22 : decode cL_term 22 = .ok (.ireturn, 1) := by decide +kernel
theorem dL_number_0 : decode cL_number 0 = .ok (.aload 5, 2) := by decide +kernel
theorem dL_number_2 : decode cL_number 2 = .ok (.iconst 0, 1) := by decide +kernel
theorem dL_number_3 : decode cL_number 3 = .ok (.aload_n 0, 1) := by decide +kernel
theorem dL_number_4 : decode cL_number 4 = .ok (.iload_n 1, 1) := by decide +kernel
theorem dL_number_5 : decode cL_number 5 = .ok (.iload_n 2, 1) := by decide +kernel
theorem dL_number_6 : decode cL_number 6 = .ok (.iload_n 3, 1) := by decide +kernel
theorem dL_number_7 : decode cL_number 7 = .ok (.iload 4, 2) := by decide +kernel
theorem dL_number_9 : decode cL_number 9 = .ok (.invokevirtual 38, 3) := by decide +kernel
theorem dL_number_12 : decode cL_number 12 = .ok (.i2l, 1) := by decide +kernel
theorem dL_number_13 : decode cL_number 13 = .ok (.lastore, 1) := by decide +kernel
theorem dL_number_14 : decode cL_number 14 = .ok (.goto 11, 3) := by decide +kernel
theorem dL_number_17 : decode cL_number 17 = .ok (.astore 6, 2) := by decide +kernel
theorem dL_number_19 : decode cL_number 19 = .ok (.iconst 1, 1) := by decide +kernel
theorem dL_number_20 : decode cL_number 20 = .ok (.ireturn, 1) := by decide +kernel
theorem dL_number_21 : decode cL_number 21 = .ok (.astore 6, 2) := by decide +kernel
theorem dL_number_23 : decode cL_number 23 = .ok (.iconst 2, 1) := by decide +kernel
theorem dL_number_24 : decode cL_number 24 = .ok (.ireturn, 1) := by decide +kernel
theorem dL_number_25 : decode cL_number 25 = .ok (.iconst 0, 1) := by decide +kernel
theorem dL_number_26 : decode cL_number 26 = .ok (.ireturn, 1) := by decide +kernel
theorem dL_value_0 : decode cL_value 0 = .ok (.aload 5, 2) := by decide +kernel
theorem dL_value_2 : decode cL_value 2 = .ok (.iconst 0, 1) := by decide +kernel
theorem dL_value_3 : decode cL_value 3 = .ok (.aload_n 0, 1) := by decide +kernel
theorem dL_value_4 : decode cL_value 4 = .ok (.iload_n 1, 1) := by decide +kernel
theorem dL_value_5 : decode cL_value 5 = .ok (.iload_n 2, 1) := by decide +kernel
theorem dL_value_6 : decode cL_value 6 = .ok (.iload_n 3, 1) := by decide +kernel
theorem dL_value_7 : decode cL_value 7 = .ok (.iload 4, 2) := by decide +kernel
theorem dL_value_9 : decode cL_value 9 = .ok (.invokevirtual 41, 3) := by decide +kernel
theorem dL_value_12 : decode cL_value 12 = .ok (.i2l, 1) := by decide +kernel
theorem dL_value_13 : decode cL_value 13 = .ok (.lastore, 1) := by decide +kernel
theorem dL_value_14 : decode cL_value 14 = .ok (.goto 11, 3) := by decide +kernel
theorem dL_value_17 : decode cL_value 17 = .ok (.astore 6, 2) := by decide +kernel
theorem dL_value_19 : decode cL_value 19 = .ok (.iconst 1, 1) := by decide +kernel
theorem dL_value_20 : decode cL_value 20 = .ok (.ireturn, 1) := by decide +kernel
theorem dL_value_21 : decode cL_value 21 = .ok (.astore 6, 2) := by decide +kernel
theorem dL_value_23 : decode cL_value 23 = .ok (.iconst 2, 1) := by decide +kernel
theorem dL_value_24 : decode cL_value 24 = .ok (.ireturn, 1) := by decide +kernel
theorem dL_value_25 : decode cL_value 25 = .ok (.iconst 0, 1) := by decide +kernel
theorem dL_value_26 : decode cL_value 26 = .ok (.ireturn, 1) := by decide +kernel
theorem dL_same_0 : decode cL_same 0 = .ok (.aload 4, 2) := by decide +kernel
theorem dL_same_2 : decode cL_same 2 = .ok (.iconst 0, 1) := by decide +kernel
theorem dL_same_3 : decode cL_same 3 = .ok (.aload_n 0, 1) := by decide +kernel
theorem dL_same_4 : decode cL_same 4 = .ok (.iload_n 1, 1) := by decide +kernel
theorem dL_same_5 : decode cL_same 5 = .ok (.iload_n 2, 1) := by decide +kernel
theorem dL_same_6 : decode cL_same 6 = .ok (.iload_n 3, 1) := by decide +kernel
theorem dL_same_7 : decode cL_same 7 = .ok (.invokevirtual 44, 3) := by decide +kernel
theorem dL_same_10 : decode cL_same 10 = .ok (.ifCond .eq 7, 3) := by decide +kernel
theorem dL_same_13 : decode cL_same 13 = .ok (.lconst 1, 1) := by decide +kernel
theorem dL_same_14 : decode cL_same 14 = .ok (.goto 4, 3) := by decide +kernel
theorem dL_same_17 : decode cL_same 17 = .ok (.lconst 0, 1) := by decide +kernel
theorem dL_same_18 : decode cL_same 18 = .ok (.lastore, 1) := by decide +kernel
theorem dL_same_19 : decode cL_same 19 = .ok (.goto 7, 3) := by decide +kernel
theorem dL_same_22 : decode cL_same 22 = .ok (.astore 5, 2) := by decide +kernel
theorem dL_same_24 : decode cL_same 24 = .ok (.iconst 1, 1) := by decide +kernel
theorem dL_same_25 : decode cL_same 25 = .ok (.ireturn, 1) := by decide +kernel
theorem dL_same_26 : decode cL_same 26 = .ok (.iconst 0, 1) := by decide +kernel
theorem dL_same_27 : decode cL_same 27 = .ok (.ireturn, 1) := by decide +kernel
theorem dL_witness_0 : decode cL_witness 0 = .ok (.aload_n 3, 1) := by decide +kernel
theorem dL_witness_1 : decode cL_witness 1 = .ok (.iconst 0, 1) := by decide +kernel
theorem dL_witness_2 : decode cL_witness 2 = .ok (.aload_n 0, 1) := by decide +kernel
theorem dL_witness_3 : decode cL_witness 3 = .ok (.iload_n 1, 1) := by decide +kernel
theorem dL_witness_4 : decode cL_witness 4 = .ok (.iload_n 2, 1) := by decide +kernel
theorem dL_witness_5 : decode cL_witness 5 = .ok (.invokevirtual 48, 3) := by decide +kernel
theorem dL_witness_8 : decode cL_witness 8 = .ok (.i2l, 1) := by decide +kernel
theorem dL_witness_9 : decode cL_witness 9 = .ok (.lastore, 1) := by decide +kernel
theorem dL_witness_10 : decode cL_witness 10 = .ok (.goto 7, 3) := by decide +kernel
theorem dL_witness_13 : decode cL_witness 13 = .ok (.astore 4, 2) := by decide +kernel
theorem dL_witness_15 : decode cL_witness 15 = .ok (.iconst 1, 1) := by decide +kernel
theorem dL_witness_16 : decode cL_witness 16 = .ok (.ireturn, 1) := by decide +kernel
theorem dL_witness_17 : decode cL_witness 17 = .ok (.iconst 0, 1) := by decide +kernel
theorem dL_witness_18 : decode cL_witness 18 = .ok (.ireturn, 1) := by decide +kernel
theorem dL_factor_0 : decode cL_factor 0 = .ok (.aload 4, 2) := by decide +kernel
theorem dL_factor_2 : decode cL_factor 2 = .ok (.iconst 0, 1) := by decide +kernel
theorem dL_factor_3 : decode cL_factor 3 = .ok (.aload_n 0, 1) := by decide +kernel
theorem dL_factor_4 : decode cL_factor 4 = .ok (.iload_n 1, 1) := by decide +kernel
theorem dL_factor_5 : decode cL_factor 5 = .ok (.iload_n 2, 1) := by decide +kernel
theorem dL_factor_6 : decode cL_factor 6 = .ok (.iload_n 3, 1) := by decide +kernel
theorem dL_factor_7 : decode cL_factor 7 = .ok (.invokevirtual 51, 3) := by decide +kernel
theorem dL_factor_10 : decode cL_factor 10 = .ok (.i2l, 1) := by decide +kernel
theorem dL_factor_11 : decode cL_factor 11 = .ok (.lastore, 1) := by decide +kernel
theorem dL_factor_12 : decode cL_factor 12 = .ok (.goto 7, 3) := by decide +kernel
theorem dL_factor_15 : decode cL_factor 15 = .ok (.astore 5, 2) := by decide +kernel
theorem dL_factor_17 : decode cL_factor 17 = .ok (.iconst 1, 1) := by decide +kernel
theorem dL_factor_18 : decode cL_factor 18 = .ok (.ireturn, 1) := by decide +kernel
theorem dL_factor_19 : decode cL_factor 19 = .ok (.iconst 0, 1) := by decide +kernel
theorem dL_factor_20 : decode cL_factor 20 = .ok (.ireturn, 1) := by decide +kernel
theorem dL_often_0 : decode cL_often 0 = .ok (.aload 6, 2) := by decide +kernel
theorem dL_often_2 : decode cL_often 2 = .ok (.iconst 0, 1) := by decide +kernel
theorem dL_often_3 : decode cL_often 3 = .ok (.aload_n 0, 1) := by decide +kernel
theorem dL_often_4 : decode cL_often 4 = .ok (.iload_n 1, 1) := by decide +kernel
theorem dL_often_5 : decode cL_often 5 = .ok (.iload_n 2, 1) := by decide +kernel
theorem dL_often_6 : decode cL_often 6 = .ok (.iload_n 3, 1) := by decide +kernel
theorem dL_often_7 : decode cL_often 7 = .ok (.iload 4, 2) := by decide +kernel
theorem dL_often_9 : decode cL_often 9 = .ok (.iload 5, 2) := by decide +kernel
theorem dL_often_11 : decode cL_often 11 = .ok (.invokevirtual 55, 3) := by decide +kernel
theorem dL_often_14 : decode cL_often 14 = .ok (.i2l, 1) := by decide +kernel
theorem dL_often_15 : decode cL_often 15 = .ok (.lastore, 1) := by decide +kernel
theorem dL_often_16 : decode cL_often 16 = .ok (.goto 11, 3) := by decide +kernel
theorem dL_often_19 : decode cL_often 19 = .ok (.astore 7, 2) := by decide +kernel
theorem dL_often_21 : decode cL_often 21 = .ok (.iconst 1, 1) := by decide +kernel
theorem dL_often_22 : decode cL_often 22 = .ok (.ireturn, 1) := by decide +kernel
theorem dL_often_23 : decode cL_often 23 = .ok (.astore 7, 2) := by decide +kernel
theorem dL_often_25 : decode cL_often 25 = .ok (.iconst 2, 1) := by decide +kernel
theorem dL_often_26 : decode cL_often 26 = .ok (.ireturn, 1) := by decide +kernel
theorem dL_often_27 : decode cL_often 27 = .ok (.iconst 0, 1) := by decide +kernel
theorem dL_often_28 : decode cL_often 28 = .ok (.ireturn, 1) := by decide +kernel
theorem dL_say_0 : decode cL_say 0 = .ok (.aload_n 2, 1) := by decide +kernel
theorem dL_say_1 : decode cL_say 1 = .ok (.iconst 0, 1) := by decide +kernel
theorem dL_say_2 : decode cL_say 2 = .ok (.aload_n 0, 1) := by decide +kernel
theorem dL_say_3 : decode cL_say 3 = .ok (.iload_n 1, 1) := by decide +kernel
theorem dL_say_4 : decode cL_say 4 = .ok (.invokevirtual 59, 3) := by decide +kernel
theorem dL_say_7 : decode cL_say 7 = .ok (.i2l, 1) := by decide +kernel
theorem dL_say_8 : decode cL_say 8 = .ok (.lastore, 1) := by decide +kernel
theorem dL_say_9 : decode cL_say 9 = .ok (.goto 6, 3) := by decide +kernel
theorem dL_say_12 : decode cL_say 12 = .ok (.astore_n 3, 1) := by decide +kernel
theorem dL_say_13 : decode cL_say 13 = .ok (.iconst 1, 1) := by decide +kernel
theorem dL_say_14 : decode cL_say 14 = .ok (.ireturn, 1) := by decide +kernel
theorem dL_say_15 : decode cL_say 15 = .ok (.iconst 0, 1) := by decide +kernel
theorem dL_say_16 : decode cL_say 16 = .ok (.ireturn, 1) := by decide +kernel
theorem dL_law_0 : decode cL_law 0 = .ok (.new 8, 3) := by decide +kernel
theorem dL_law_3 : decode cL_law 3 = .ok (.dup, 1) := by decide +kernel
theorem dL_law_4 : decode cL_law 4 = .ok (.invokespecial 62, 3) := by decide +kernel
theorem dL_law_7 : decode cL_law 7 = .ok (.astore_n 1, 1) := by decide +kernel
theorem dL_law_8 : decode cL_law 8 = .ok (.new 63, 3) := by decide +kernel
theorem dL_law_11 : decode cL_law 11 = .ok (.dup, 1) := by decide +kernel
theorem dL_law_12 : decode cL_law 12 = .ok (.invokespecial 65, 3) := by decide +kernel
theorem dL_law_15 : decode cL_law 15 = .ok (.astore_n 2, 1) := by decide +kernel
theorem dL_law_16 : decode cL_law 16 = .ok (.iconst 1, 1) := by decide +kernel
theorem dL_law_17 : decode cL_law 17 = .ok (.newarray .long, 2) := by decide +kernel
theorem dL_law_19 : decode cL_law 19 = .ok (.astore_n 3, 1) := by decide +kernel
theorem dL_law_20 : decode cL_law 20 = .ok (.iconst 0, 1) := by decide +kernel
theorem dL_law_21 : decode cL_law 21 = .ok (.istore 4, 2) := by decide +kernel
theorem dL_law_23 : decode cL_law 23 = .ok (.iload 4, 2) := by decide +kernel
theorem dL_law_25 : decode cL_law 25 = .ok (.aload_n 0, 1) := by decide +kernel
theorem dL_law_26 : decode cL_law 26 = .ok (.arraylength, 1) := by decide +kernel
theorem dL_law_27 : decode cL_law 27 = .ok (.bipush 6, 2) := by decide +kernel
theorem dL_law_29 : decode cL_law 29 = .ok (.isub, 1) := by decide +kernel
theorem dL_law_30 : decode cL_law 30 = .ok (.if_icmp .gt 1510, 3) := by decide +kernel
theorem dL_law_33 : decode cL_law 33 = .ok (.aload_n 0, 1) := by decide +kernel
theorem dL_law_34 : decode cL_law 34 = .ok (.iload 4, 2) := by decide +kernel
theorem dL_law_36 : decode cL_law 36 = .ok (.iaload, 1) := by decide +kernel
theorem dL_law_37 : decode cL_law 37 = .ok (.bipush 31, 2) := by decide +kernel
theorem dL_law_39 : decode cL_law 39 = .ok (.iand, 1) := by decide +kernel
theorem dL_law_40 : decode cL_law 40 = .ok (.tableswitch 1494 0 20 #[100, 125, 198, 266, 279, 335, 403, 523, 584, 645, 701, 714, 782, 874, 966, 1058, 1161, 1229, 1309, 1413, 1469], 100) := by decide +kernel
theorem dL_law_140 : decode cL_law 140 = .ok (.aload_n 1, 1) := by decide +kernel
theorem dL_law_141 : decode cL_law 141 = .ok (.aload_n 0, 1) := by decide +kernel
theorem dL_law_142 : decode cL_law 142 = .ok (.iload 4, 2) := by decide +kernel
theorem dL_law_144 : decode cL_law 144 = .ok (.iconst 1, 1) := by decide +kernel
theorem dL_law_145 : decode cL_law 145 = .ok (.iadd, 1) := by decide +kernel
theorem dL_law_146 : decode cL_law 146 = .ok (.iaload, 1) := by decide +kernel
theorem dL_law_147 : decode cL_law 147 = .ok (.invokevirtual 66, 3) := by decide +kernel
theorem dL_law_150 : decode cL_law 150 = .ok (.aload_n 2, 1) := by decide +kernel
theorem dL_law_151 : decode cL_law 151 = .ok (.aload_n 0, 1) := by decide +kernel
theorem dL_law_152 : decode cL_law 152 = .ok (.iload 4, 2) := by decide +kernel
theorem dL_law_154 : decode cL_law 154 = .ok (.iconst 1, 1) := by decide +kernel
theorem dL_law_155 : decode cL_law 155 = .ok (.iadd, 1) := by decide +kernel
theorem dL_law_156 : decode cL_law 156 = .ok (.iaload, 1) := by decide +kernel
theorem dL_law_157 : decode cL_law 157 = .ok (.invokevirtual 69, 3) := by decide +kernel
theorem dL_law_160 : decode cL_law 160 = .ok (.if_icmp .eq 1374, 3) := by decide +kernel
theorem dL_law_163 : decode cL_law 163 = .ok (.iconst 0, 1) := by decide +kernel
theorem dL_law_164 : decode cL_law 164 = .ok (.ireturn, 1) := by decide +kernel
theorem dL_law_165 : decode cL_law 165 = .ok (.aload_n 1, 1) := by decide +kernel
theorem dL_law_166 : decode cL_law 166 = .ok (.aload_n 0, 1) := by decide +kernel
theorem dL_law_167 : decode cL_law 167 = .ok (.iload 4, 2) := by decide +kernel
theorem dL_law_169 : decode cL_law 169 = .ok (.iconst 1, 1) := by decide +kernel
theorem dL_law_170 : decode cL_law 170 = .ok (.iadd, 1) := by decide +kernel
theorem dL_law_171 : decode cL_law 171 = .ok (.iaload, 1) := by decide +kernel
theorem dL_law_172 : decode cL_law 172 = .ok (.aload_n 0, 1) := by decide +kernel
theorem dL_law_173 : decode cL_law 173 = .ok (.iload 4, 2) := by decide +kernel
theorem dL_law_175 : decode cL_law 175 = .ok (.iconst 2, 1) := by decide +kernel
theorem dL_law_176 : decode cL_law 176 = .ok (.iadd, 1) := by decide +kernel
theorem dL_law_177 : decode cL_law 177 = .ok (.iaload, 1) := by decide +kernel
theorem dL_law_178 : decode cL_law 178 = .ok (.aload_n 0, 1) := by decide +kernel
theorem dL_law_179 : decode cL_law 179 = .ok (.iload 4, 2) := by decide +kernel
theorem dL_law_181 : decode cL_law 181 = .ok (.iconst 3, 1) := by decide +kernel
theorem dL_law_182 : decode cL_law 182 = .ok (.iadd, 1) := by decide +kernel
theorem dL_law_183 : decode cL_law 183 = .ok (.iaload, 1) := by decide +kernel
theorem dL_law_184 : decode cL_law 184 = .ok (.aload_n 0, 1) := by decide +kernel
theorem dL_law_185 : decode cL_law 185 = .ok (.iload 4, 2) := by decide +kernel
theorem dL_law_187 : decode cL_law 187 = .ok (.iconst 4, 1) := by decide +kernel
theorem dL_law_188 : decode cL_law 188 = .ok (.iadd, 1) := by decide +kernel
theorem dL_law_189 : decode cL_law 189 = .ok (.iaload, 1) := by decide +kernel
theorem dL_law_190 : decode cL_law 190 = .ok (.aload_n 0, 1) := by decide +kernel
theorem dL_law_191 : decode cL_law 191 = .ok (.iload 4, 2) := by decide +kernel
theorem dL_law_193 : decode cL_law 193 = .ok (.iconst 5, 1) := by decide +kernel
theorem dL_law_194 : decode cL_law 194 = .ok (.iadd, 1) := by decide +kernel
theorem dL_law_195 : decode cL_law 195 = .ok (.iaload, 1) := by decide +kernel
theorem dL_law_196 : decode cL_law 196 = .ok (.invokevirtual 70, 3) := by decide +kernel
theorem dL_law_199 : decode cL_law 199 = .ok (.aload_n 2, 1) := by decide +kernel
theorem dL_law_200 : decode cL_law 200 = .ok (.aload_n 0, 1) := by decide +kernel
theorem dL_law_201 : decode cL_law 201 = .ok (.iload 4, 2) := by decide +kernel
theorem dL_law_203 : decode cL_law 203 = .ok (.iconst 1, 1) := by decide +kernel
theorem dL_law_204 : decode cL_law 204 = .ok (.iadd, 1) := by decide +kernel
theorem dL_law_205 : decode cL_law 205 = .ok (.iaload, 1) := by decide +kernel
theorem dL_law_206 : decode cL_law 206 = .ok (.aload_n 0, 1) := by decide +kernel
theorem dL_law_207 : decode cL_law 207 = .ok (.iload 4, 2) := by decide +kernel
theorem dL_law_209 : decode cL_law 209 = .ok (.iconst 2, 1) := by decide +kernel
theorem dL_law_210 : decode cL_law 210 = .ok (.iadd, 1) := by decide +kernel
theorem dL_law_211 : decode cL_law 211 = .ok (.iaload, 1) := by decide +kernel
theorem dL_law_212 : decode cL_law 212 = .ok (.aload_n 0, 1) := by decide +kernel
theorem dL_law_213 : decode cL_law 213 = .ok (.iload 4, 2) := by decide +kernel
theorem dL_law_215 : decode cL_law 215 = .ok (.iconst 3, 1) := by decide +kernel
theorem dL_law_216 : decode cL_law 216 = .ok (.iadd, 1) := by decide +kernel
theorem dL_law_217 : decode cL_law 217 = .ok (.iaload, 1) := by decide +kernel
theorem dL_law_218 : decode cL_law 218 = .ok (.aload_n 0, 1) := by decide +kernel
theorem dL_law_219 : decode cL_law 219 = .ok (.iload 4, 2) := by decide +kernel
theorem dL_law_221 : decode cL_law 221 = .ok (.iconst 4, 1) := by decide +kernel
theorem dL_law_222 : decode cL_law 222 = .ok (.iadd, 1) := by decide +kernel
theorem dL_law_223 : decode cL_law 223 = .ok (.iaload, 1) := by decide +kernel
theorem dL_law_224 : decode cL_law 224 = .ok (.aload_n 0, 1) := by decide +kernel
theorem dL_law_225 : decode cL_law 225 = .ok (.iload 4, 2) := by decide +kernel
theorem dL_law_227 : decode cL_law 227 = .ok (.iconst 5, 1) := by decide +kernel
theorem dL_law_228 : decode cL_law 228 = .ok (.iadd, 1) := by decide +kernel
theorem dL_law_229 : decode cL_law 229 = .ok (.iaload, 1) := by decide +kernel
theorem dL_law_230 : decode cL_law 230 = .ok (.invokevirtual 73, 3) := by decide +kernel
theorem dL_law_233 : decode cL_law 233 = .ok (.if_icmp .eq 1301, 3) := by decide +kernel
theorem dL_law_236 : decode cL_law 236 = .ok (.iconst 0, 1) := by decide +kernel
theorem dL_law_237 : decode cL_law 237 = .ok (.ireturn, 1) := by decide +kernel
theorem dL_law_238 : decode cL_law 238 = .ok (.aload_n 1, 1) := by decide +kernel
theorem dL_law_239 : decode cL_law 239 = .ok (.aload_n 0, 1) := by decide +kernel
theorem dL_law_240 : decode cL_law 240 = .ok (.iload 4, 2) := by decide +kernel
theorem dL_law_242 : decode cL_law 242 = .ok (.iconst 1, 1) := by decide +kernel
theorem dL_law_243 : decode cL_law 243 = .ok (.iadd, 1) := by decide +kernel
theorem dL_law_244 : decode cL_law 244 = .ok (.iaload, 1) := by decide +kernel
theorem dL_law_245 : decode cL_law 245 = .ok (.aload_n 0, 1) := by decide +kernel
theorem dL_law_246 : decode cL_law 246 = .ok (.iload 4, 2) := by decide +kernel
theorem dL_law_248 : decode cL_law 248 = .ok (.iconst 2, 1) := by decide +kernel
theorem dL_law_249 : decode cL_law 249 = .ok (.iadd, 1) := by decide +kernel
theorem dL_law_250 : decode cL_law 250 = .ok (.iaload, 1) := by decide +kernel
theorem dL_law_251 : decode cL_law 251 = .ok (.aload_n 3, 1) := by decide +kernel
theorem dL_law_252 : decode cL_law 252 = .ok (.invokestatic 74, 3) := by decide +kernel
theorem dL_law_255 : decode cL_law 255 = .ok (.istore 5, 2) := by decide +kernel
theorem dL_law_257 : decode cL_law 257 = .ok (.aload_n 2, 1) := by decide +kernel
theorem dL_law_258 : decode cL_law 258 = .ok (.aload_n 0, 1) := by decide +kernel
theorem dL_law_259 : decode cL_law 259 = .ok (.iload 4, 2) := by decide +kernel
theorem dL_law_261 : decode cL_law 261 = .ok (.iconst 1, 1) := by decide +kernel
theorem dL_law_262 : decode cL_law 262 = .ok (.iadd, 1) := by decide +kernel
theorem dL_law_263 : decode cL_law 263 = .ok (.iaload, 1) := by decide +kernel
theorem dL_law_264 : decode cL_law 264 = .ok (.aload_n 0, 1) := by decide +kernel
theorem dL_law_265 : decode cL_law 265 = .ok (.iload 4, 2) := by decide +kernel
theorem dL_law_267 : decode cL_law 267 = .ok (.iconst 2, 1) := by decide +kernel
theorem dL_law_268 : decode cL_law 268 = .ok (.iadd, 1) := by decide +kernel
theorem dL_law_269 : decode cL_law 269 = .ok (.iaload, 1) := by decide +kernel
theorem dL_law_270 : decode cL_law 270 = .ok (.invokevirtual 79, 3) := by decide +kernel
theorem dL_law_273 : decode cL_law 273 = .ok (.istore 6, 2) := by decide +kernel
theorem dL_law_275 : decode cL_law 275 = .ok (.aload_n 2, 1) := by decide +kernel
theorem dL_law_276 : decode cL_law 276 = .ok (.invokevirtual 80, 3) := by decide +kernel
theorem dL_law_279 : decode cL_law 279 = .ok (.iload 5, 2) := by decide +kernel
theorem dL_law_281 : decode cL_law 281 = .ok (.if_icmp .eq 5, 3) := by decide +kernel
theorem dL_law_284 : decode cL_law 284 = .ok (.iconst 0, 1) := by decide +kernel
theorem dL_law_285 : decode cL_law 285 = .ok (.ireturn, 1) := by decide +kernel
theorem dL_law_286 : decode cL_law 286 = .ok (.iload 5, 2) := by decide +kernel
theorem dL_law_288 : decode cL_law 288 = .ok (.ifCond .ne 15, 3) := by decide +kernel
theorem dL_law_291 : decode cL_law 291 = .ok (.aload_n 3, 1) := by decide +kernel
theorem dL_law_292 : decode cL_law 292 = .ok (.iconst 0, 1) := by decide +kernel
theorem dL_law_293 : decode cL_law 293 = .ok (.laload, 1) := by decide +kernel
theorem dL_law_294 : decode cL_law 294 = .ok (.iload 6, 2) := by decide +kernel
theorem dL_law_296 : decode cL_law 296 = .ok (.i2l, 1) := by decide +kernel
theorem dL_law_297 : decode cL_law 297 = .ok (.lcmp, 1) := by decide +kernel
theorem dL_law_298 : decode cL_law 298 = .ok (.ifCond .eq 5, 3) := by decide +kernel
theorem dL_law_301 : decode cL_law 301 = .ok (.iconst 0, 1) := by decide +kernel
theorem dL_law_302 : decode cL_law 302 = .ok (.ireturn, 1) := by decide +kernel
theorem dL_law_303 : decode cL_law 303 = .ok (.goto 1231, 3) := by decide +kernel
theorem dL_law_306 : decode cL_law 306 = .ok (.aload_n 1, 1) := by decide +kernel
theorem dL_law_307 : decode cL_law 307 = .ok (.invokevirtual 84, 3) := by decide +kernel
theorem dL_law_310 : decode cL_law 310 = .ok (.aload_n 2, 1) := by decide +kernel
theorem dL_law_311 : decode cL_law 311 = .ok (.invokevirtual 87, 3) := by decide +kernel
theorem dL_law_314 : decode cL_law 314 = .ok (.if_icmp .eq 1220, 3) := by decide +kernel
theorem dL_law_317 : decode cL_law 317 = .ok (.iconst 0, 1) := by decide +kernel
theorem dL_law_318 : decode cL_law 318 = .ok (.ireturn, 1) := by decide +kernel
theorem dL_law_319 : decode cL_law 319 = .ok (.aload_n 1, 1) := by decide +kernel
theorem dL_law_320 : decode cL_law 320 = .ok (.aload_n 0, 1) := by decide +kernel
theorem dL_law_321 : decode cL_law 321 = .ok (.iload 4, 2) := by decide +kernel
theorem dL_law_323 : decode cL_law 323 = .ok (.iconst 1, 1) := by decide +kernel
theorem dL_law_324 : decode cL_law 324 = .ok (.iadd, 1) := by decide +kernel
theorem dL_law_325 : decode cL_law 325 = .ok (.iaload, 1) := by decide +kernel
theorem dL_law_326 : decode cL_law 326 = .ok (.aload_n 3, 1) := by decide +kernel
theorem dL_law_327 : decode cL_law 327 = .ok (.invokestatic 88, 3) := by decide +kernel
theorem dL_law_330 : decode cL_law 330 = .ok (.istore 5, 2) := by decide +kernel
theorem dL_law_332 : decode cL_law 332 = .ok (.aload_n 2, 1) := by decide +kernel
theorem dL_law_333 : decode cL_law 333 = .ok (.aload_n 0, 1) := by decide +kernel
theorem dL_law_334 : decode cL_law 334 = .ok (.iload 4, 2) := by decide +kernel
theorem dL_law_336 : decode cL_law 336 = .ok (.iconst 1, 1) := by decide +kernel
theorem dL_law_337 : decode cL_law 337 = .ok (.iadd, 1) := by decide +kernel
theorem dL_law_338 : decode cL_law 338 = .ok (.iaload, 1) := by decide +kernel
theorem dL_law_339 : decode cL_law 339 = .ok (.invokevirtual 91, 3) := by decide +kernel
theorem dL_law_342 : decode cL_law 342 = .ok (.istore 6, 2) := by decide +kernel
theorem dL_law_344 : decode cL_law 344 = .ok (.aload_n 2, 1) := by decide +kernel
theorem dL_law_345 : decode cL_law 345 = .ok (.invokevirtual 80, 3) := by decide +kernel
theorem dL_law_348 : decode cL_law 348 = .ok (.iload 5, 2) := by decide +kernel
theorem dL_law_350 : decode cL_law 350 = .ok (.if_icmp .eq 5, 3) := by decide +kernel
theorem dL_law_353 : decode cL_law 353 = .ok (.iconst 0, 1) := by decide +kernel
theorem dL_law_354 : decode cL_law 354 = .ok (.ireturn, 1) := by decide +kernel
theorem dL_law_355 : decode cL_law 355 = .ok (.iload 5, 2) := by decide +kernel
theorem dL_law_357 : decode cL_law 357 = .ok (.ifCond .ne 15, 3) := by decide +kernel
theorem dL_law_360 : decode cL_law 360 = .ok (.aload_n 3, 1) := by decide +kernel
theorem dL_law_361 : decode cL_law 361 = .ok (.iconst 0, 1) := by decide +kernel
theorem dL_law_362 : decode cL_law 362 = .ok (.laload, 1) := by decide +kernel
theorem dL_law_363 : decode cL_law 363 = .ok (.iload 6, 2) := by decide +kernel
theorem dL_law_365 : decode cL_law 365 = .ok (.i2l, 1) := by decide +kernel
theorem dL_law_366 : decode cL_law 366 = .ok (.lcmp, 1) := by decide +kernel
theorem dL_law_367 : decode cL_law 367 = .ok (.ifCond .eq 5, 3) := by decide +kernel
theorem dL_law_370 : decode cL_law 370 = .ok (.iconst 0, 1) := by decide +kernel
theorem dL_law_371 : decode cL_law 371 = .ok (.ireturn, 1) := by decide +kernel
theorem dL_law_372 : decode cL_law 372 = .ok (.goto 1162, 3) := by decide +kernel
theorem dL_law_375 : decode cL_law 375 = .ok (.aload_n 1, 1) := by decide +kernel
theorem dL_law_376 : decode cL_law 376 = .ok (.aload_n 0, 1) := by decide +kernel
theorem dL_law_377 : decode cL_law 377 = .ok (.iload 4, 2) := by decide +kernel
theorem dL_law_379 : decode cL_law 379 = .ok (.iconst 1, 1) := by decide +kernel
theorem dL_law_380 : decode cL_law 380 = .ok (.iadd, 1) := by decide +kernel
theorem dL_law_381 : decode cL_law 381 = .ok (.iaload, 1) := by decide +kernel
theorem dL_law_382 : decode cL_law 382 = .ok (.aload_n 0, 1) := by decide +kernel
theorem dL_law_383 : decode cL_law 383 = .ok (.iload 4, 2) := by decide +kernel
theorem dL_law_385 : decode cL_law 385 = .ok (.iconst 2, 1) := by decide +kernel
theorem dL_law_386 : decode cL_law 386 = .ok (.iadd, 1) := by decide +kernel
theorem dL_law_387 : decode cL_law 387 = .ok (.iaload, 1) := by decide +kernel
theorem dL_law_388 : decode cL_law 388 = .ok (.aload_n 3, 1) := by decide +kernel
theorem dL_law_389 : decode cL_law 389 = .ok (.invokestatic 92, 3) := by decide +kernel
theorem dL_law_392 : decode cL_law 392 = .ok (.istore 5, 2) := by decide +kernel
theorem dL_law_394 : decode cL_law 394 = .ok (.aload_n 2, 1) := by decide +kernel
theorem dL_law_395 : decode cL_law 395 = .ok (.aload_n 0, 1) := by decide +kernel
theorem dL_law_396 : decode cL_law 396 = .ok (.iload 4, 2) := by decide +kernel
theorem dL_law_398 : decode cL_law 398 = .ok (.iconst 1, 1) := by decide +kernel
theorem dL_law_399 : decode cL_law 399 = .ok (.iadd, 1) := by decide +kernel
theorem dL_law_400 : decode cL_law 400 = .ok (.iaload, 1) := by decide +kernel
theorem dL_law_401 : decode cL_law 401 = .ok (.aload_n 0, 1) := by decide +kernel
theorem dL_law_402 : decode cL_law 402 = .ok (.iload 4, 2) := by decide +kernel
theorem dL_law_404 : decode cL_law 404 = .ok (.iconst 2, 1) := by decide +kernel
theorem dL_law_405 : decode cL_law 405 = .ok (.iadd, 1) := by decide +kernel
theorem dL_law_406 : decode cL_law 406 = .ok (.iaload, 1) := by decide +kernel
theorem dL_law_407 : decode cL_law 407 = .ok (.invokevirtual 94, 3) := by decide +kernel
theorem dL_law_410 : decode cL_law 410 = .ok (.istore 6, 2) := by decide +kernel
theorem dL_law_412 : decode cL_law 412 = .ok (.aload_n 2, 1) := by decide +kernel
theorem dL_law_413 : decode cL_law 413 = .ok (.invokevirtual 80, 3) := by decide +kernel
theorem dL_law_416 : decode cL_law 416 = .ok (.iload 5, 2) := by decide +kernel
theorem dL_law_418 : decode cL_law 418 = .ok (.if_icmp .eq 5, 3) := by decide +kernel
theorem dL_law_421 : decode cL_law 421 = .ok (.iconst 0, 1) := by decide +kernel
theorem dL_law_422 : decode cL_law 422 = .ok (.ireturn, 1) := by decide +kernel
theorem dL_law_423 : decode cL_law 423 = .ok (.iload 5, 2) := by decide +kernel
theorem dL_law_425 : decode cL_law 425 = .ok (.ifCond .ne 15, 3) := by decide +kernel
theorem dL_law_428 : decode cL_law 428 = .ok (.aload_n 3, 1) := by decide +kernel
theorem dL_law_429 : decode cL_law 429 = .ok (.iconst 0, 1) := by decide +kernel
theorem dL_law_430 : decode cL_law 430 = .ok (.laload, 1) := by decide +kernel
theorem dL_law_431 : decode cL_law 431 = .ok (.iload 6, 2) := by decide +kernel
theorem dL_law_433 : decode cL_law 433 = .ok (.i2l, 1) := by decide +kernel
theorem dL_law_434 : decode cL_law 434 = .ok (.lcmp, 1) := by decide +kernel
theorem dL_law_435 : decode cL_law 435 = .ok (.ifCond .eq 5, 3) := by decide +kernel
theorem dL_law_438 : decode cL_law 438 = .ok (.iconst 0, 1) := by decide +kernel
theorem dL_law_439 : decode cL_law 439 = .ok (.ireturn, 1) := by decide +kernel
theorem dL_law_440 : decode cL_law 440 = .ok (.goto 1094, 3) := by decide +kernel
theorem dL_law_443 : decode cL_law 443 = .ok (.aload_n 1, 1) := by decide +kernel
theorem dL_law_444 : decode cL_law 444 = .ok (.aload_n 0, 1) := by decide +kernel
theorem dL_law_445 : decode cL_law 445 = .ok (.iload 4, 2) := by decide +kernel
theorem dL_law_447 : decode cL_law 447 = .ok (.iconst 1, 1) := by decide +kernel
theorem dL_law_448 : decode cL_law 448 = .ok (.iadd, 1) := by decide +kernel
theorem dL_law_449 : decode cL_law 449 = .ok (.iaload, 1) := by decide +kernel
theorem dL_law_450 : decode cL_law 450 = .ok (.aload_n 0, 1) := by decide +kernel
theorem dL_law_451 : decode cL_law 451 = .ok (.iload 4, 2) := by decide +kernel
theorem dL_law_453 : decode cL_law 453 = .ok (.iconst 2, 1) := by decide +kernel
theorem dL_law_454 : decode cL_law 454 = .ok (.iadd, 1) := by decide +kernel
theorem dL_law_455 : decode cL_law 455 = .ok (.iaload, 1) := by decide +kernel
theorem dL_law_456 : decode cL_law 456 = .ok (.ifCond .eq 7, 3) := by decide +kernel
theorem dL_law_459 : decode cL_law 459 = .ok (.iconst 1, 1) := by decide +kernel
theorem dL_law_460 : decode cL_law 460 = .ok (.goto 4, 3) := by decide +kernel
theorem dL_law_463 : decode cL_law 463 = .ok (.iconst 0, 1) := by decide +kernel
theorem dL_law_464 : decode cL_law 464 = .ok (.aload_n 0, 1) := by decide +kernel
theorem dL_law_465 : decode cL_law 465 = .ok (.iload 4, 2) := by decide +kernel
theorem dL_law_467 : decode cL_law 467 = .ok (.iconst 3, 1) := by decide +kernel
theorem dL_law_468 : decode cL_law 468 = .ok (.iadd, 1) := by decide +kernel
theorem dL_law_469 : decode cL_law 469 = .ok (.iaload, 1) := by decide +kernel
theorem dL_law_470 : decode cL_law 470 = .ok (.aload_n 0, 1) := by decide +kernel
theorem dL_law_471 : decode cL_law 471 = .ok (.iload 4, 2) := by decide +kernel
theorem dL_law_473 : decode cL_law 473 = .ok (.iconst 4, 1) := by decide +kernel
theorem dL_law_474 : decode cL_law 474 = .ok (.iadd, 1) := by decide +kernel
theorem dL_law_475 : decode cL_law 475 = .ok (.iaload, 1) := by decide +kernel
theorem dL_law_476 : decode cL_law 476 = .ok (.aload_n 0, 1) := by decide +kernel
theorem dL_law_477 : decode cL_law 477 = .ok (.iload 4, 2) := by decide +kernel
theorem dL_law_479 : decode cL_law 479 = .ok (.iconst 5, 1) := by decide +kernel
theorem dL_law_480 : decode cL_law 480 = .ok (.iadd, 1) := by decide +kernel
theorem dL_law_481 : decode cL_law 481 = .ok (.iaload, 1) := by decide +kernel
theorem dL_law_482 : decode cL_law 482 = .ok (.aload_n 3, 1) := by decide +kernel
theorem dL_law_483 : decode cL_law 483 = .ok (.invokestatic 95, 3) := by decide +kernel
theorem dL_law_486 : decode cL_law 486 = .ok (.istore 5, 2) := by decide +kernel
theorem dL_law_488 : decode cL_law 488 = .ok (.aload_n 2, 1) := by decide +kernel
theorem dL_law_489 : decode cL_law 489 = .ok (.aload_n 0, 1) := by decide +kernel
theorem dL_law_490 : decode cL_law 490 = .ok (.iload 4, 2) := by decide +kernel
theorem dL_law_492 : decode cL_law 492 = .ok (.iconst 1, 1) := by decide +kernel
theorem dL_law_493 : decode cL_law 493 = .ok (.iadd, 1) := by decide +kernel
theorem dL_law_494 : decode cL_law 494 = .ok (.iaload, 1) := by decide +kernel
theorem dL_law_495 : decode cL_law 495 = .ok (.aload_n 0, 1) := by decide +kernel
theorem dL_law_496 : decode cL_law 496 = .ok (.iload 4, 2) := by decide +kernel
theorem dL_law_498 : decode cL_law 498 = .ok (.iconst 2, 1) := by decide +kernel
theorem dL_law_499 : decode cL_law 499 = .ok (.iadd, 1) := by decide +kernel
theorem dL_law_500 : decode cL_law 500 = .ok (.iaload, 1) := by decide +kernel
theorem dL_law_501 : decode cL_law 501 = .ok (.ifCond .eq 7, 3) := by decide +kernel
theorem dL_law_504 : decode cL_law 504 = .ok (.iconst 1, 1) := by decide +kernel
theorem dL_law_505 : decode cL_law 505 = .ok (.goto 4, 3) := by decide +kernel
theorem dL_law_508 : decode cL_law 508 = .ok (.iconst 0, 1) := by decide +kernel
theorem dL_law_509 : decode cL_law 509 = .ok (.aload_n 0, 1) := by decide +kernel
theorem dL_law_510 : decode cL_law 510 = .ok (.iload 4, 2) := by decide +kernel
theorem dL_law_512 : decode cL_law 512 = .ok (.iconst 3, 1) := by decide +kernel
theorem dL_law_513 : decode cL_law 513 = .ok (.iadd, 1) := by decide +kernel
theorem dL_law_514 : decode cL_law 514 = .ok (.iaload, 1) := by decide +kernel
theorem dL_law_515 : decode cL_law 515 = .ok (.aload_n 0, 1) := by decide +kernel
theorem dL_law_516 : decode cL_law 516 = .ok (.iload 4, 2) := by decide +kernel
theorem dL_law_518 : decode cL_law 518 = .ok (.iconst 4, 1) := by decide +kernel
theorem dL_law_519 : decode cL_law 519 = .ok (.iadd, 1) := by decide +kernel
theorem dL_law_520 : decode cL_law 520 = .ok (.iaload, 1) := by decide +kernel
theorem dL_law_521 : decode cL_law 521 = .ok (.aload_n 0, 1) := by decide +kernel
theorem dL_law_522 : decode cL_law 522 = .ok (.iload 4, 2) := by decide +kernel
theorem dL_law_524 : decode cL_law 524 = .ok (.iconst 5, 1) := by decide +kernel
theorem dL_law_525 : decode cL_law 525 = .ok (.iadd, 1) := by decide +kernel
theorem dL_law_526 : decode cL_law 526 = .ok (.iaload, 1) := by decide +kernel
theorem dL_law_527 : decode cL_law 527 = .ok (.invokevirtual 98, 3) := by decide +kernel
theorem dL_law_530 : decode cL_law 530 = .ok (.istore 6, 2) := by decide +kernel
theorem dL_law_532 : decode cL_law 532 = .ok (.aload_n 2, 1) := by decide +kernel
theorem dL_law_533 : decode cL_law 533 = .ok (.invokevirtual 80, 3) := by decide +kernel
theorem dL_law_536 : decode cL_law 536 = .ok (.iload 5, 2) := by decide +kernel
theorem dL_law_538 : decode cL_law 538 = .ok (.if_icmp .eq 5, 3) := by decide +kernel
theorem dL_law_541 : decode cL_law 541 = .ok (.iconst 0, 1) := by decide +kernel
theorem dL_law_542 : decode cL_law 542 = .ok (.ireturn, 1) := by decide +kernel
theorem dL_law_543 : decode cL_law 543 = .ok (.iload 5, 2) := by decide +kernel
theorem dL_law_545 : decode cL_law 545 = .ok (.ifCond .ne 15, 3) := by decide +kernel
theorem dL_law_548 : decode cL_law 548 = .ok (.aload_n 3, 1) := by decide +kernel
theorem dL_law_549 : decode cL_law 549 = .ok (.iconst 0, 1) := by decide +kernel
theorem dL_law_550 : decode cL_law 550 = .ok (.laload, 1) := by decide +kernel
theorem dL_law_551 : decode cL_law 551 = .ok (.iload 6, 2) := by decide +kernel
theorem dL_law_553 : decode cL_law 553 = .ok (.i2l, 1) := by decide +kernel
theorem dL_law_554 : decode cL_law 554 = .ok (.lcmp, 1) := by decide +kernel
theorem dL_law_555 : decode cL_law 555 = .ok (.ifCond .eq 5, 3) := by decide +kernel
theorem dL_law_558 : decode cL_law 558 = .ok (.iconst 0, 1) := by decide +kernel
theorem dL_law_559 : decode cL_law 559 = .ok (.ireturn, 1) := by decide +kernel
theorem dL_law_560 : decode cL_law 560 = .ok (.goto 974, 3) := by decide +kernel
theorem dL_law_563 : decode cL_law 563 = .ok (.aload_n 1, 1) := by decide +kernel
theorem dL_law_564 : decode cL_law 564 = .ok (.aload_n 0, 1) := by decide +kernel
theorem dL_law_565 : decode cL_law 565 = .ok (.iload 4, 2) := by decide +kernel
theorem dL_law_567 : decode cL_law 567 = .ok (.iconst 1, 1) := by decide +kernel
theorem dL_law_568 : decode cL_law 568 = .ok (.iadd, 1) := by decide +kernel
theorem dL_law_569 : decode cL_law 569 = .ok (.iaload, 1) := by decide +kernel
theorem dL_law_570 : decode cL_law 570 = .ok (.aload_n 0, 1) := by decide +kernel
theorem dL_law_571 : decode cL_law 571 = .ok (.iload 4, 2) := by decide +kernel
theorem dL_law_573 : decode cL_law 573 = .ok (.iconst 2, 1) := by decide +kernel
theorem dL_law_574 : decode cL_law 574 = .ok (.iadd, 1) := by decide +kernel
theorem dL_law_575 : decode cL_law 575 = .ok (.iaload, 1) := by decide +kernel
theorem dL_law_576 : decode cL_law 576 = .ok (.aload_n 0, 1) := by decide +kernel
theorem dL_law_577 : decode cL_law 577 = .ok (.iload 4, 2) := by decide +kernel
theorem dL_law_579 : decode cL_law 579 = .ok (.iconst 3, 1) := by decide +kernel
theorem dL_law_580 : decode cL_law 580 = .ok (.iadd, 1) := by decide +kernel
theorem dL_law_581 : decode cL_law 581 = .ok (.iaload, 1) := by decide +kernel
theorem dL_law_582 : decode cL_law 582 = .ok (.aload_n 0, 1) := by decide +kernel
theorem dL_law_583 : decode cL_law 583 = .ok (.iload 4, 2) := by decide +kernel
theorem dL_law_585 : decode cL_law 585 = .ok (.iconst 4, 1) := by decide +kernel
theorem dL_law_586 : decode cL_law 586 = .ok (.iadd, 1) := by decide +kernel
theorem dL_law_587 : decode cL_law 587 = .ok (.iaload, 1) := by decide +kernel
theorem dL_law_588 : decode cL_law 588 = .ok (.invokevirtual 99, 3) := by decide +kernel
theorem dL_law_591 : decode cL_law 591 = .ok (.aload_n 2, 1) := by decide +kernel
theorem dL_law_592 : decode cL_law 592 = .ok (.aload_n 0, 1) := by decide +kernel
theorem dL_law_593 : decode cL_law 593 = .ok (.iload 4, 2) := by decide +kernel
theorem dL_law_595 : decode cL_law 595 = .ok (.iconst 1, 1) := by decide +kernel
theorem dL_law_596 : decode cL_law 596 = .ok (.iadd, 1) := by decide +kernel
theorem dL_law_597 : decode cL_law 597 = .ok (.iaload, 1) := by decide +kernel
theorem dL_law_598 : decode cL_law 598 = .ok (.aload_n 0, 1) := by decide +kernel
theorem dL_law_599 : decode cL_law 599 = .ok (.iload 4, 2) := by decide +kernel
theorem dL_law_601 : decode cL_law 601 = .ok (.iconst 2, 1) := by decide +kernel
theorem dL_law_602 : decode cL_law 602 = .ok (.iadd, 1) := by decide +kernel
theorem dL_law_603 : decode cL_law 603 = .ok (.iaload, 1) := by decide +kernel
theorem dL_law_604 : decode cL_law 604 = .ok (.aload_n 0, 1) := by decide +kernel
theorem dL_law_605 : decode cL_law 605 = .ok (.iload 4, 2) := by decide +kernel
theorem dL_law_607 : decode cL_law 607 = .ok (.iconst 3, 1) := by decide +kernel
theorem dL_law_608 : decode cL_law 608 = .ok (.iadd, 1) := by decide +kernel
theorem dL_law_609 : decode cL_law 609 = .ok (.iaload, 1) := by decide +kernel
theorem dL_law_610 : decode cL_law 610 = .ok (.aload_n 0, 1) := by decide +kernel
theorem dL_law_611 : decode cL_law 611 = .ok (.iload 4, 2) := by decide +kernel
theorem dL_law_613 : decode cL_law 613 = .ok (.iconst 4, 1) := by decide +kernel
theorem dL_law_614 : decode cL_law 614 = .ok (.iadd, 1) := by decide +kernel
theorem dL_law_615 : decode cL_law 615 = .ok (.iaload, 1) := by decide +kernel
theorem dL_law_616 : decode cL_law 616 = .ok (.invokevirtual 102, 3) := by decide +kernel
theorem dL_law_619 : decode cL_law 619 = .ok (.if_icmp .eq 915, 3) := by decide +kernel
theorem dL_law_622 : decode cL_law 622 = .ok (.iconst 0, 1) := by decide +kernel
theorem dL_law_623 : decode cL_law 623 = .ok (.ireturn, 1) := by decide +kernel
theorem dL_law_624 : decode cL_law 624 = .ok (.aload_n 1, 1) := by decide +kernel
theorem dL_law_625 : decode cL_law 625 = .ok (.aload_n 0, 1) := by decide +kernel
theorem dL_law_626 : decode cL_law 626 = .ok (.iload 4, 2) := by decide +kernel
theorem dL_law_628 : decode cL_law 628 = .ok (.iconst 1, 1) := by decide +kernel
theorem dL_law_629 : decode cL_law 629 = .ok (.iadd, 1) := by decide +kernel
theorem dL_law_630 : decode cL_law 630 = .ok (.iaload, 1) := by decide +kernel
theorem dL_law_631 : decode cL_law 631 = .ok (.aload_n 0, 1) := by decide +kernel
theorem dL_law_632 : decode cL_law 632 = .ok (.iload 4, 2) := by decide +kernel
theorem dL_law_634 : decode cL_law 634 = .ok (.iconst 2, 1) := by decide +kernel
theorem dL_law_635 : decode cL_law 635 = .ok (.iadd, 1) := by decide +kernel
theorem dL_law_636 : decode cL_law 636 = .ok (.iaload, 1) := by decide +kernel
theorem dL_law_637 : decode cL_law 637 = .ok (.aload_n 0, 1) := by decide +kernel
theorem dL_law_638 : decode cL_law 638 = .ok (.iload 4, 2) := by decide +kernel
theorem dL_law_640 : decode cL_law 640 = .ok (.iconst 3, 1) := by decide +kernel
theorem dL_law_641 : decode cL_law 641 = .ok (.iadd, 1) := by decide +kernel
theorem dL_law_642 : decode cL_law 642 = .ok (.iaload, 1) := by decide +kernel
theorem dL_law_643 : decode cL_law 643 = .ok (.aload_n 0, 1) := by decide +kernel
theorem dL_law_644 : decode cL_law 644 = .ok (.iload 4, 2) := by decide +kernel
theorem dL_law_646 : decode cL_law 646 = .ok (.iconst 4, 1) := by decide +kernel
theorem dL_law_647 : decode cL_law 647 = .ok (.iadd, 1) := by decide +kernel
theorem dL_law_648 : decode cL_law 648 = .ok (.iaload, 1) := by decide +kernel
theorem dL_law_649 : decode cL_law 649 = .ok (.invokevirtual 103, 3) := by decide +kernel
theorem dL_law_652 : decode cL_law 652 = .ok (.aload_n 2, 1) := by decide +kernel
theorem dL_law_653 : decode cL_law 653 = .ok (.aload_n 0, 1) := by decide +kernel
theorem dL_law_654 : decode cL_law 654 = .ok (.iload 4, 2) := by decide +kernel
theorem dL_law_656 : decode cL_law 656 = .ok (.iconst 1, 1) := by decide +kernel
theorem dL_law_657 : decode cL_law 657 = .ok (.iadd, 1) := by decide +kernel
theorem dL_law_658 : decode cL_law 658 = .ok (.iaload, 1) := by decide +kernel
theorem dL_law_659 : decode cL_law 659 = .ok (.aload_n 0, 1) := by decide +kernel
theorem dL_law_660 : decode cL_law 660 = .ok (.iload 4, 2) := by decide +kernel
theorem dL_law_662 : decode cL_law 662 = .ok (.iconst 2, 1) := by decide +kernel
theorem dL_law_663 : decode cL_law 663 = .ok (.iadd, 1) := by decide +kernel
theorem dL_law_664 : decode cL_law 664 = .ok (.iaload, 1) := by decide +kernel
theorem dL_law_665 : decode cL_law 665 = .ok (.aload_n 0, 1) := by decide +kernel
theorem dL_law_666 : decode cL_law 666 = .ok (.iload 4, 2) := by decide +kernel
theorem dL_law_668 : decode cL_law 668 = .ok (.iconst 3, 1) := by decide +kernel
theorem dL_law_669 : decode cL_law 669 = .ok (.iadd, 1) := by decide +kernel
theorem dL_law_670 : decode cL_law 670 = .ok (.iaload, 1) := by decide +kernel
theorem dL_law_671 : decode cL_law 671 = .ok (.aload_n 0, 1) := by decide +kernel
theorem dL_law_672 : decode cL_law 672 = .ok (.iload 4, 2) := by decide +kernel
theorem dL_law_674 : decode cL_law 674 = .ok (.iconst 4, 1) := by decide +kernel
theorem dL_law_675 : decode cL_law 675 = .ok (.iadd, 1) := by decide +kernel
theorem dL_law_676 : decode cL_law 676 = .ok (.iaload, 1) := by decide +kernel
theorem dL_law_677 : decode cL_law 677 = .ok (.invokevirtual 106, 3) := by decide +kernel
theorem dL_law_680 : decode cL_law 680 = .ok (.if_icmp .eq 854, 3) := by decide +kernel
theorem dL_law_683 : decode cL_law 683 = .ok (.iconst 0, 1) := by decide +kernel
theorem dL_law_684 : decode cL_law 684 = .ok (.ireturn, 1) := by decide +kernel
theorem dL_law_685 : decode cL_law 685 = .ok (.aload_n 1, 1) := by decide +kernel
theorem dL_law_686 : decode cL_law 686 = .ok (.aload_n 0, 1) := by decide +kernel
theorem dL_law_687 : decode cL_law 687 = .ok (.iload 4, 2) := by decide +kernel
theorem dL_law_689 : decode cL_law 689 = .ok (.iconst 1, 1) := by decide +kernel
theorem dL_law_690 : decode cL_law 690 = .ok (.iadd, 1) := by decide +kernel
theorem dL_law_691 : decode cL_law 691 = .ok (.iaload, 1) := by decide +kernel
theorem dL_law_692 : decode cL_law 692 = .ok (.aload_n 3, 1) := by decide +kernel
theorem dL_law_693 : decode cL_law 693 = .ok (.invokestatic 107, 3) := by decide +kernel
theorem dL_law_696 : decode cL_law 696 = .ok (.istore 5, 2) := by decide +kernel
theorem dL_law_698 : decode cL_law 698 = .ok (.aload_n 2, 1) := by decide +kernel
theorem dL_law_699 : decode cL_law 699 = .ok (.aload_n 0, 1) := by decide +kernel
theorem dL_law_700 : decode cL_law 700 = .ok (.iload 4, 2) := by decide +kernel
theorem dL_law_702 : decode cL_law 702 = .ok (.iconst 1, 1) := by decide +kernel
theorem dL_law_703 : decode cL_law 703 = .ok (.iadd, 1) := by decide +kernel
theorem dL_law_704 : decode cL_law 704 = .ok (.iaload, 1) := by decide +kernel
theorem dL_law_705 : decode cL_law 705 = .ok (.invokevirtual 109, 3) := by decide +kernel
theorem dL_law_708 : decode cL_law 708 = .ok (.istore 6, 2) := by decide +kernel
theorem dL_law_710 : decode cL_law 710 = .ok (.aload_n 2, 1) := by decide +kernel
theorem dL_law_711 : decode cL_law 711 = .ok (.invokevirtual 80, 3) := by decide +kernel
theorem dL_law_714 : decode cL_law 714 = .ok (.iload 5, 2) := by decide +kernel
theorem dL_law_716 : decode cL_law 716 = .ok (.if_icmp .eq 5, 3) := by decide +kernel
theorem dL_law_719 : decode cL_law 719 = .ok (.iconst 0, 1) := by decide +kernel
theorem dL_law_720 : decode cL_law 720 = .ok (.ireturn, 1) := by decide +kernel
theorem dL_law_721 : decode cL_law 721 = .ok (.iload 5, 2) := by decide +kernel
theorem dL_law_723 : decode cL_law 723 = .ok (.ifCond .ne 15, 3) := by decide +kernel
theorem dL_law_726 : decode cL_law 726 = .ok (.aload_n 3, 1) := by decide +kernel
theorem dL_law_727 : decode cL_law 727 = .ok (.iconst 0, 1) := by decide +kernel
theorem dL_law_728 : decode cL_law 728 = .ok (.laload, 1) := by decide +kernel
theorem dL_law_729 : decode cL_law 729 = .ok (.iload 6, 2) := by decide +kernel
theorem dL_law_731 : decode cL_law 731 = .ok (.i2l, 1) := by decide +kernel
theorem dL_law_732 : decode cL_law 732 = .ok (.lcmp, 1) := by decide +kernel
theorem dL_law_733 : decode cL_law 733 = .ok (.ifCond .eq 5, 3) := by decide +kernel
theorem dL_law_736 : decode cL_law 736 = .ok (.iconst 0, 1) := by decide +kernel
theorem dL_law_737 : decode cL_law 737 = .ok (.ireturn, 1) := by decide +kernel
theorem dL_law_738 : decode cL_law 738 = .ok (.goto 796, 3) := by decide +kernel
theorem dL_law_741 : decode cL_law 741 = .ok (.aload_n 1, 1) := by decide +kernel
theorem dL_law_742 : decode cL_law 742 = .ok (.invokevirtual 110, 3) := by decide +kernel
theorem dL_law_745 : decode cL_law 745 = .ok (.aload_n 2, 1) := by decide +kernel
theorem dL_law_746 : decode cL_law 746 = .ok (.invokevirtual 113, 3) := by decide +kernel
theorem dL_law_749 : decode cL_law 749 = .ok (.if_icmp .eq 785, 3) := by decide +kernel
theorem dL_law_752 : decode cL_law 752 = .ok (.iconst 0, 1) := by decide +kernel
theorem dL_law_753 : decode cL_law 753 = .ok (.ireturn, 1) := by decide +kernel
theorem dL_law_754 : decode cL_law 754 = .ok (.aload_n 1, 1) := by decide +kernel
theorem dL_law_755 : decode cL_law 755 = .ok (.aload_n 0, 1) := by decide +kernel
theorem dL_law_756 : decode cL_law 756 = .ok (.iload 4, 2) := by decide +kernel
theorem dL_law_758 : decode cL_law 758 = .ok (.iconst 1, 1) := by decide +kernel
theorem dL_law_759 : decode cL_law 759 = .ok (.iadd, 1) := by decide +kernel
theorem dL_law_760 : decode cL_law 760 = .ok (.iaload, 1) := by decide +kernel
theorem dL_law_761 : decode cL_law 761 = .ok (.aload_n 0, 1) := by decide +kernel
theorem dL_law_762 : decode cL_law 762 = .ok (.iload 4, 2) := by decide +kernel
theorem dL_law_764 : decode cL_law 764 = .ok (.iconst 2, 1) := by decide +kernel
theorem dL_law_765 : decode cL_law 765 = .ok (.iadd, 1) := by decide +kernel
theorem dL_law_766 : decode cL_law 766 = .ok (.iaload, 1) := by decide +kernel
theorem dL_law_767 : decode cL_law 767 = .ok (.aload_n 3, 1) := by decide +kernel
theorem dL_law_768 : decode cL_law 768 = .ok (.invokestatic 114, 3) := by decide +kernel
theorem dL_law_771 : decode cL_law 771 = .ok (.istore 5, 2) := by decide +kernel
theorem dL_law_773 : decode cL_law 773 = .ok (.aload_n 2, 1) := by decide +kernel
theorem dL_law_774 : decode cL_law 774 = .ok (.aload_n 0, 1) := by decide +kernel
theorem dL_law_775 : decode cL_law 775 = .ok (.iload 4, 2) := by decide +kernel
theorem dL_law_777 : decode cL_law 777 = .ok (.iconst 1, 1) := by decide +kernel
theorem dL_law_778 : decode cL_law 778 = .ok (.iadd, 1) := by decide +kernel
theorem dL_law_779 : decode cL_law 779 = .ok (.iaload, 1) := by decide +kernel
theorem dL_law_780 : decode cL_law 780 = .ok (.aload_n 0, 1) := by decide +kernel
theorem dL_law_781 : decode cL_law 781 = .ok (.iload 4, 2) := by decide +kernel
theorem dL_law_783 : decode cL_law 783 = .ok (.iconst 2, 1) := by decide +kernel
theorem dL_law_784 : decode cL_law 784 = .ok (.iadd, 1) := by decide +kernel
theorem dL_law_785 : decode cL_law 785 = .ok (.iaload, 1) := by decide +kernel
theorem dL_law_786 : decode cL_law 786 = .ok (.invokevirtual 116, 3) := by decide +kernel
theorem dL_law_789 : decode cL_law 789 = .ok (.istore 6, 2) := by decide +kernel
theorem dL_law_791 : decode cL_law 791 = .ok (.aload_n 2, 1) := by decide +kernel
theorem dL_law_792 : decode cL_law 792 = .ok (.invokevirtual 80, 3) := by decide +kernel
theorem dL_law_795 : decode cL_law 795 = .ok (.iload 5, 2) := by decide +kernel
theorem dL_law_797 : decode cL_law 797 = .ok (.if_icmp .eq 5, 3) := by decide +kernel
theorem dL_law_800 : decode cL_law 800 = .ok (.iconst 0, 1) := by decide +kernel
theorem dL_law_801 : decode cL_law 801 = .ok (.ireturn, 1) := by decide +kernel
theorem dL_law_802 : decode cL_law 802 = .ok (.iload 5, 2) := by decide +kernel
theorem dL_law_804 : decode cL_law 804 = .ok (.ifCond .ne 15, 3) := by decide +kernel
theorem dL_law_807 : decode cL_law 807 = .ok (.aload_n 3, 1) := by decide +kernel
theorem dL_law_808 : decode cL_law 808 = .ok (.iconst 0, 1) := by decide +kernel
theorem dL_law_809 : decode cL_law 809 = .ok (.laload, 1) := by decide +kernel
theorem dL_law_810 : decode cL_law 810 = .ok (.iload 6, 2) := by decide +kernel
theorem dL_law_812 : decode cL_law 812 = .ok (.i2l, 1) := by decide +kernel
theorem dL_law_813 : decode cL_law 813 = .ok (.lcmp, 1) := by decide +kernel
theorem dL_law_814 : decode cL_law 814 = .ok (.ifCond .eq 5, 3) := by decide +kernel
theorem dL_law_817 : decode cL_law 817 = .ok (.iconst 0, 1) := by decide +kernel
theorem dL_law_818 : decode cL_law 818 = .ok (.ireturn, 1) := by decide +kernel
theorem dL_law_819 : decode cL_law 819 = .ok (.goto 715, 3) := by decide +kernel
theorem dL_law_822 : decode cL_law 822 = .ok (.aload_n 1, 1) := by decide +kernel
theorem dL_law_823 : decode cL_law 823 = .ok (.aload_n 0, 1) := by decide +kernel
theorem dL_law_824 : decode cL_law 824 = .ok (.iload 4, 2) := by decide +kernel
theorem dL_law_826 : decode cL_law 826 = .ok (.iconst 1, 1) := by decide +kernel
theorem dL_law_827 : decode cL_law 827 = .ok (.iadd, 1) := by decide +kernel
theorem dL_law_828 : decode cL_law 828 = .ok (.iaload, 1) := by decide +kernel
theorem dL_law_829 : decode cL_law 829 = .ok (.aload_n 0, 1) := by decide +kernel
theorem dL_law_830 : decode cL_law 830 = .ok (.iload 4, 2) := by decide +kernel
theorem dL_law_832 : decode cL_law 832 = .ok (.iconst 2, 1) := by decide +kernel
theorem dL_law_833 : decode cL_law 833 = .ok (.iadd, 1) := by decide +kernel
theorem dL_law_834 : decode cL_law 834 = .ok (.iaload, 1) := by decide +kernel
theorem dL_law_835 : decode cL_law 835 = .ok (.aload_n 0, 1) := by decide +kernel
theorem dL_law_836 : decode cL_law 836 = .ok (.iload 4, 2) := by decide +kernel
theorem dL_law_838 : decode cL_law 838 = .ok (.iconst 3, 1) := by decide +kernel
theorem dL_law_839 : decode cL_law 839 = .ok (.iadd, 1) := by decide +kernel
theorem dL_law_840 : decode cL_law 840 = .ok (.iaload, 1) := by decide +kernel
theorem dL_law_841 : decode cL_law 841 = .ok (.aload_n 0, 1) := by decide +kernel
theorem dL_law_842 : decode cL_law 842 = .ok (.iload 4, 2) := by decide +kernel
theorem dL_law_844 : decode cL_law 844 = .ok (.iconst 4, 1) := by decide +kernel
theorem dL_law_845 : decode cL_law 845 = .ok (.iadd, 1) := by decide +kernel
theorem dL_law_846 : decode cL_law 846 = .ok (.iaload, 1) := by decide +kernel
theorem dL_law_847 : decode cL_law 847 = .ok (.aload_n 3, 1) := by decide +kernel
theorem dL_law_848 : decode cL_law 848 = .ok (.invokestatic 117, 3) := by decide +kernel
theorem dL_law_851 : decode cL_law 851 = .ok (.istore 5, 2) := by decide +kernel
theorem dL_law_853 : decode cL_law 853 = .ok (.aload_n 2, 1) := by decide +kernel
theorem dL_law_854 : decode cL_law 854 = .ok (.aload_n 0, 1) := by decide +kernel
theorem dL_law_855 : decode cL_law 855 = .ok (.iload 4, 2) := by decide +kernel
theorem dL_law_857 : decode cL_law 857 = .ok (.iconst 1, 1) := by decide +kernel
theorem dL_law_858 : decode cL_law 858 = .ok (.iadd, 1) := by decide +kernel
theorem dL_law_859 : decode cL_law 859 = .ok (.iaload, 1) := by decide +kernel
theorem dL_law_860 : decode cL_law 860 = .ok (.aload_n 0, 1) := by decide +kernel
theorem dL_law_861 : decode cL_law 861 = .ok (.iload 4, 2) := by decide +kernel
theorem dL_law_863 : decode cL_law 863 = .ok (.iconst 2, 1) := by decide +kernel
theorem dL_law_864 : decode cL_law 864 = .ok (.iadd, 1) := by decide +kernel
theorem dL_law_865 : decode cL_law 865 = .ok (.iaload, 1) := by decide +kernel
theorem dL_law_866 : decode cL_law 866 = .ok (.aload_n 0, 1) := by decide +kernel
theorem dL_law_867 : decode cL_law 867 = .ok (.iload 4, 2) := by decide +kernel
theorem dL_law_869 : decode cL_law 869 = .ok (.iconst 3, 1) := by decide +kernel
theorem dL_law_870 : decode cL_law 870 = .ok (.iadd, 1) := by decide +kernel
theorem dL_law_871 : decode cL_law 871 = .ok (.iaload, 1) := by decide +kernel
theorem dL_law_872 : decode cL_law 872 = .ok (.aload_n 0, 1) := by decide +kernel
theorem dL_law_873 : decode cL_law 873 = .ok (.iload 4, 2) := by decide +kernel
theorem dL_law_875 : decode cL_law 875 = .ok (.iconst 4, 1) := by decide +kernel
theorem dL_law_876 : decode cL_law 876 = .ok (.iadd, 1) := by decide +kernel
theorem dL_law_877 : decode cL_law 877 = .ok (.iaload, 1) := by decide +kernel
theorem dL_law_878 : decode cL_law 878 = .ok (.invokevirtual 120, 3) := by decide +kernel
theorem dL_law_881 : decode cL_law 881 = .ok (.istore 6, 2) := by decide +kernel
theorem dL_law_883 : decode cL_law 883 = .ok (.aload_n 2, 1) := by decide +kernel
theorem dL_law_884 : decode cL_law 884 = .ok (.invokevirtual 80, 3) := by decide +kernel
theorem dL_law_887 : decode cL_law 887 = .ok (.iload 5, 2) := by decide +kernel
theorem dL_law_889 : decode cL_law 889 = .ok (.if_icmp .eq 5, 3) := by decide +kernel
theorem dL_law_892 : decode cL_law 892 = .ok (.iconst 0, 1) := by decide +kernel
theorem dL_law_893 : decode cL_law 893 = .ok (.ireturn, 1) := by decide +kernel
theorem dL_law_894 : decode cL_law 894 = .ok (.iload 5, 2) := by decide +kernel
theorem dL_law_896 : decode cL_law 896 = .ok (.ifCond .ne 15, 3) := by decide +kernel
theorem dL_law_899 : decode cL_law 899 = .ok (.aload_n 3, 1) := by decide +kernel
theorem dL_law_900 : decode cL_law 900 = .ok (.iconst 0, 1) := by decide +kernel
theorem dL_law_901 : decode cL_law 901 = .ok (.laload, 1) := by decide +kernel
theorem dL_law_902 : decode cL_law 902 = .ok (.iload 6, 2) := by decide +kernel
theorem dL_law_904 : decode cL_law 904 = .ok (.i2l, 1) := by decide +kernel
theorem dL_law_905 : decode cL_law 905 = .ok (.lcmp, 1) := by decide +kernel
theorem dL_law_906 : decode cL_law 906 = .ok (.ifCond .eq 5, 3) := by decide +kernel
theorem dL_law_909 : decode cL_law 909 = .ok (.iconst 0, 1) := by decide +kernel
theorem dL_law_910 : decode cL_law 910 = .ok (.ireturn, 1) := by decide +kernel
theorem dL_law_911 : decode cL_law 911 = .ok (.goto 623, 3) := by decide +kernel
theorem dL_law_914 : decode cL_law 914 = .ok (.aload_n 1, 1) := by decide +kernel
