theorem dX12_writesTerm_91 : decode cX12_writesTerm 91 = .ok (.return_, 1) := by decide +kernel
theorem dX12_say_0 : decode cX12_say 0 = .ok (.aload_n 0, 1) := by decide +kernel
theorem dX12_say_1 : decode cX12_say 1 = .ok (.iconst 0, 1) := by decide +kernel
theorem dX12_say_2 : decode cX12_say 2 = .ok (.putfield 116, 3) := by decide +kernel
theorem dX12_say_5 : decode cX12_say 5 = .ok (.iload_n 1, 1) := by decide +kernel
theorem dX12_say_6 : decode cX12_say 6 = .ok (.invokestatic 265, 3) := by decide +kernel
theorem dX12_say_9 : decode cX12_say 9 = .ok (.ifCond .ne 9, 3) := by decide +kernel
theorem dX12_say_12 : decode cX12_say 12 = .ok (.aload_n 0, 1) := by decide +kernel
theorem dX12_say_13 : decode cX12_say 13 = .ok (.iconst 1, 1) := by decide +kernel
theorem dX12_say_14 : decode cX12_say 14 = .ok (.invokevirtual 317, 3) := by decide +kernel
theorem dX12_say_17 : decode cX12_say 17 = .ok (.ireturn, 1) := by decide +kernel
theorem dX12_say_18 : decode cX12_say 18 = .ok (.aload_n 0, 1) := by decide +kernel
theorem dX12_say_19 : decode cX12_say 19 = .ok (.iconst 0, 1) := by decide +kernel
theorem dX12_say_20 : decode cX12_say 20 = .ok (.putfield 354, 3) := by decide +kernel
theorem dX12_say_23 : decode cX12_say 23 = .ok (.aload_n 0, 1) := by decide +kernel
theorem dX12_say_24 : decode cX12_say 24 = .ok (.getfield 13, 3) := by decide +kernel
theorem dX12_say_27 : decode cX12_say 27 = .ok (.iload_n 1, 1) := by decide +kernel
theorem dX12_say_28 : decode cX12_say 28 = .ok (.iaload, 1) := by decide +kernel
theorem dX12_say_29 : decode cX12_say 29 = .ok (.ifCond .ne 9, 3) := by decide +kernel
theorem dX12_say_32 : decode cX12_say 32 = .ok (.aload_n 0, 1) := by decide +kernel
theorem dX12_say_33 : decode cX12_say 33 = .ok (.bipush 48, 2) := by decide +kernel
theorem dX12_say_35 : decode cX12_say 35 = .ok (.invokevirtual 360, 3) := by decide +kernel
theorem dX12_say_38 : decode cX12_say 38 = .ok (.iconst 0, 1) := by decide +kernel
theorem dX12_say_39 : decode cX12_say 39 = .ok (.istore_n 2, 1) := by decide +kernel
theorem dX12_say_40 : decode cX12_say 40 = .ok (.iload_n 2, 1) := by decide +kernel
theorem dX12_say_41 : decode cX12_say 41 = .ok (.aload_n 0, 1) := by decide +kernel
theorem dX12_say_42 : decode cX12_say 42 = .ok (.getfield 13, 3) := by decide +kernel
theorem dX12_say_45 : decode cX12_say 45 = .ok (.iload_n 1, 1) := by decide +kernel
theorem dX12_say_46 : decode cX12_say 46 = .ok (.iaload, 1) := by decide +kernel
theorem dX12_say_47 : decode cX12_say 47 = .ok (.if_icmp .ge 43, 3) := by decide +kernel
theorem dX12_say_50 : decode cX12_say 50 = .ok (.aload_n 0, 1) := by decide +kernel
theorem dX12_say_51 : decode cX12_say 51 = .ok (.iload_n 1, 1) := by decide +kernel
theorem dX12_say_52 : decode cX12_say 52 = .ok (.iconst 0, 1) := by decide +kernel
theorem dX12_say_53 : decode cX12_say 53 = .ok (.iload_n 2, 1) := by decide +kernel
theorem dX12_say_54 : decode cX12_say 54 = .ok (.invokevirtual 342, 3) := by decide +kernel
theorem dX12_say_57 : decode cX12_say 57 = .ok (.istore_n 3, 1) := by decide +kernel
theorem dX12_say_58 : decode cX12_say 58 = .ok (.iload_n 2, 1) := by decide +kernel
theorem dX12_say_59 : decode cX12_say 59 = .ok (.ifCond .le 9, 3) := by decide +kernel
theorem dX12_say_62 : decode cX12_say 62 = .ok (.aload_n 0, 1) := by decide +kernel
theorem dX12_say_63 : decode cX12_say 63 = .ok (.bipush 43, 2) := by decide +kernel
theorem dX12_say_65 : decode cX12_say 65 = .ok (.invokevirtual 360, 3) := by decide +kernel
theorem dX12_say_68 : decode cX12_say 68 = .ok (.aload_n 0, 1) := by decide +kernel
theorem dX12_say_69 : decode cX12_say 69 = .ok (.aload_n 0, 1) := by decide +kernel
theorem dX12_say_70 : decode cX12_say 70 = .ok (.iload_n 1, 1) := by decide +kernel
theorem dX12_say_71 : decode cX12_say 71 = .ok (.iload_n 3, 1) := by decide +kernel
theorem dX12_say_72 : decode cX12_say 72 = .ok (.invokevirtual 123, 3) := by decide +kernel
theorem dX12_say_75 : decode cX12_say 75 = .ok (.aload_n 0, 1) := by decide +kernel
theorem dX12_say_76 : decode cX12_say 76 = .ok (.iload_n 1, 1) := by decide +kernel
theorem dX12_say_77 : decode cX12_say 77 = .ok (.iload_n 3, 1) := by decide +kernel
theorem dX12_say_78 : decode cX12_say 78 = .ok (.invokevirtual 126, 3) := by decide +kernel
theorem dX12_say_81 : decode cX12_say 81 = .ok (.invokevirtual 363, 3) := by decide +kernel
theorem dX12_say_84 : decode cX12_say 84 = .ok (.iinc 2 1, 3) := by decide +kernel
theorem dX12_say_87 : decode cX12_say 87 = .ok (.goto (-47), 3) := by decide +kernel
theorem dX12_say_90 : decode cX12_say 90 = .ok (.aload_n 0, 1) := by decide +kernel
theorem dX12_say_91 : decode cX12_say 91 = .ok (.getfield 354, 3) := by decide +kernel
theorem dX12_say_94 : decode cX12_say 94 = .ok (.ireturn, 1) := by decide +kernel
theorem dX12_said_0 : decode cX12_said 0 = .ok (.aload_n 0, 1) := by decide +kernel
theorem dX12_said_1 : decode cX12_said 1 = .ok (.iconst 0, 1) := by decide +kernel
theorem dX12_said_2 : decode cX12_said 2 = .ok (.putfield 116, 3) := by decide +kernel
theorem dX12_said_5 : decode cX12_said 5 = .ok (.iload_n 1, 1) := by decide +kernel
theorem dX12_said_6 : decode cX12_said 6 = .ok (.iconst 0, 1) := by decide +kernel
theorem dX12_said_7 : decode cX12_said 7 = .ok (.aload_n 0, 1) := by decide +kernel
theorem dX12_said_8 : decode cX12_said 8 = .ok (.getfield 354, 3) := by decide +kernel
theorem dX12_said_11 : decode cX12_said 11 = .ok (.iconst 1, 1) := by decide +kernel
theorem dX12_said_12 : decode cX12_said 12 = .ok (.isub, 1) := by decide +kernel
theorem dX12_said_13 : decode cX12_said 13 = .ok (.invokestatic 181, 3) := by decide +kernel
theorem dX12_said_16 : decode cX12_said 16 = .ok (.ifCond .eq 12, 3) := by decide +kernel
theorem dX12_said_19 : decode cX12_said 19 = .ok (.aload_n 0, 1) := by decide +kernel
theorem dX12_said_20 : decode cX12_said 20 = .ok (.getfield 74, 3) := by decide +kernel
theorem dX12_said_23 : decode cX12_said 23 = .ok (.iload_n 1, 1) := by decide +kernel
theorem dX12_said_24 : decode cX12_said 24 = .ok (.iaload, 1) := by decide +kernel
theorem dX12_said_25 : decode cX12_said 25 = .ok (.goto 4, 3) := by decide +kernel
theorem dX12_said_28 : decode cX12_said 28 = .ok (.iconst (-1), 1) := by decide +kernel
theorem dX12_said_29 : decode cX12_said 29 = .ok (.ireturn, 1) := by decide +kernel
theorem dX12_count_0 : decode cX12_count 0 = .ok (.aload_n 0, 1) := by decide +kernel
theorem dX12_count_1 : decode cX12_count 1 = .ok (.iconst 0, 1) := by decide +kernel
theorem dX12_count_2 : decode cX12_count 2 = .ok (.putfield 116, 3) := by decide +kernel
theorem dX12_count_5 : decode cX12_count 5 = .ok (.iload_n 1, 1) := by decide +kernel
theorem dX12_count_6 : decode cX12_count 6 = .ok (.ifCond .ne 10, 3) := by decide +kernel
theorem dX12_count_9 : decode cX12_count 9 = .ok (.aload_n 0, 1) := by decide +kernel
theorem dX12_count_10 : decode cX12_count 10 = .ok (.getfield 9, 3) := by decide +kernel
theorem dX12_count_13 : decode cX12_count 13 = .ok (.goto 44, 3) := by decide +kernel
theorem dX12_count_16 : decode cX12_count 16 = .ok (.iload_n 1, 1) := by decide +kernel
theorem dX12_count_17 : decode cX12_count 17 = .ok (.iconst 1, 1) := by decide +kernel
theorem dX12_count_18 : decode cX12_count 18 = .ok (.if_icmp .ne 10, 3) := by decide +kernel
theorem dX12_count_21 : decode cX12_count 21 = .ok (.aload_n 0, 1) := by decide +kernel
theorem dX12_count_22 : decode cX12_count 22 = .ok (.getfield 194, 3) := by decide +kernel
theorem dX12_count_25 : decode cX12_count 25 = .ok (.goto 32, 3) := by decide +kernel
theorem dX12_count_28 : decode cX12_count 28 = .ok (.iload_n 1, 1) := by decide +kernel
theorem dX12_count_29 : decode cX12_count 29 = .ok (.iconst 2, 1) := by decide +kernel
theorem dX12_count_30 : decode cX12_count 30 = .ok (.if_icmp .ne 10, 3) := by decide +kernel
theorem dX12_count_33 : decode cX12_count 33 = .ok (.aload_n 0, 1) := by decide +kernel
theorem dX12_count_34 : decode cX12_count 34 = .ok (.getfield 311, 3) := by decide +kernel
theorem dX12_count_37 : decode cX12_count 37 = .ok (.goto 20, 3) := by decide +kernel
theorem dX12_count_40 : decode cX12_count 40 = .ok (.iload_n 1, 1) := by decide +kernel
theorem dX12_count_41 : decode cX12_count 41 = .ok (.iconst 3, 1) := by decide +kernel
theorem dX12_count_42 : decode cX12_count 42 = .ok (.if_icmp .ne 10, 3) := by decide +kernel
theorem dX12_count_45 : decode cX12_count 45 = .ok (.aload_n 0, 1) := by decide +kernel
theorem dX12_count_46 : decode cX12_count 46 = .ok (.getfield 188, 3) := by decide +kernel
theorem dX12_count_49 : decode cX12_count 49 = .ok (.goto 8, 3) := by decide +kernel
theorem dX12_count_52 : decode cX12_count 52 = .ok (.aload_n 0, 1) := by decide +kernel
theorem dX12_count_53 : decode cX12_count 53 = .ok (.iconst 1, 1) := by decide +kernel
theorem dX12_count_54 : decode cX12_count 54 = .ok (.invokevirtual 317, 3) := by decide +kernel
theorem dX12_count_57 : decode cX12_count 57 = .ok (.ireturn, 1) := by decide +kernel
theorem dX12_atom_0 : decode cX12_atom 0 = .ok (.aload_n 0, 1) := by decide +kernel
theorem dX12_atom_1 : decode cX12_atom 1 = .ok (.getfield 98, 3) := by decide +kernel
theorem dX12_atom_4 : decode cX12_atom 4 = .ok (.iload_n 2, 1) := by decide +kernel
theorem dX12_atom_5 : decode cX12_atom 5 = .ok (.iaload, 1) := by decide +kernel
theorem dX12_atom_6 : decode cX12_atom 6 = .ok (.istore_n 3, 1) := by decide +kernel
theorem dX12_atom_7 : decode cX12_atom 7 = .ok (.aload_n 0, 1) := by decide +kernel
theorem dX12_atom_8 : decode cX12_atom 8 = .ok (.getfield 95, 3) := by decide +kernel
theorem dX12_atom_11 : decode cX12_atom 11 = .ok (.iload_n 2, 1) := by decide +kernel
theorem dX12_atom_12 : decode cX12_atom 12 = .ok (.iaload, 1) := by decide +kernel
theorem dX12_atom_13 : decode cX12_atom 13 = .ok (.iconst 2, 1) := by decide +kernel
theorem dX12_atom_14 : decode cX12_atom 14 = .ok (.if_icmp .ne 15, 3) := by decide +kernel
theorem dX12_atom_17 : decode cX12_atom 17 = .ok (.aload_n 0, 1) := by decide +kernel
theorem dX12_atom_18 : decode cX12_atom 18 = .ok (.iload_n 1, 1) := by decide +kernel
theorem dX12_atom_19 : decode cX12_atom 19 = .ok (.bipush 29, 2) := by decide +kernel
theorem dX12_atom_21 : decode cX12_atom 21 = .ok (.iload_n 3, 1) := by decide +kernel
theorem dX12_atom_22 : decode cX12_atom 22 = .ok (.iadd, 1) := by decide +kernel
theorem dX12_atom_23 : decode cX12_atom 23 = .ok (.invokevirtual 168, 3) := by decide +kernel
theorem dX12_atom_26 : decode cX12_atom 26 = .ok (.goto 68, 3) := by decide +kernel
theorem dX12_atom_29 : decode cX12_atom 29 = .ok (.aload_n 0, 1) := by decide +kernel
theorem dX12_atom_30 : decode cX12_atom 30 = .ok (.getfield 95, 3) := by decide +kernel
theorem dX12_atom_33 : decode cX12_atom 33 = .ok (.iload_n 2, 1) := by decide +kernel
theorem dX12_atom_34 : decode cX12_atom 34 = .ok (.iaload, 1) := by decide +kernel
theorem dX12_atom_35 : decode cX12_atom 35 = .ok (.iconst 1, 1) := by decide +kernel
theorem dX12_atom_36 : decode cX12_atom 36 = .ok (.if_icmp .ne 47, 3) := by decide +kernel
theorem dX12_atom_39 : decode cX12_atom 39 = .ok (.aload_n 0, 1) := by decide +kernel
theorem dX12_atom_40 : decode cX12_atom 40 = .ok (.iload_n 3, 1) := by decide +kernel
theorem dX12_atom_41 : decode cX12_atom 41 = .ok (.ifCond .ne 7, 3) := by decide +kernel
theorem dX12_atom_44 : decode cX12_atom 44 = .ok (.iconst 1, 1) := by decide +kernel
theorem dX12_atom_45 : decode cX12_atom 45 = .ok (.goto 4, 3) := by decide +kernel
theorem dX12_atom_48 : decode cX12_atom 48 = .ok (.iconst 0, 1) := by decide +kernel
theorem dX12_atom_49 : decode cX12_atom 49 = .ok (.iload_n 3, 1) := by decide +kernel
theorem dX12_atom_50 : decode cX12_atom 50 = .ok (.iconst 1, 1) := by decide +kernel
theorem dX12_atom_51 : decode cX12_atom 51 = .ok (.if_icmp .ne 7, 3) := by decide +kernel
theorem dX12_atom_54 : decode cX12_atom 54 = .ok (.iconst 1, 1) := by decide +kernel
theorem dX12_atom_55 : decode cX12_atom 55 = .ok (.goto 4, 3) := by decide +kernel
theorem dX12_atom_58 : decode cX12_atom 58 = .ok (.iconst 0, 1) := by decide +kernel
theorem dX12_atom_59 : decode cX12_atom 59 = .ok (.iload_n 3, 1) := by decide +kernel
theorem dX12_atom_60 : decode cX12_atom 60 = .ok (.iconst 2, 1) := by decide +kernel
theorem dX12_atom_61 : decode cX12_atom 61 = .ok (.if_icmp .ne 7, 3) := by decide +kernel
theorem dX12_atom_64 : decode cX12_atom 64 = .ok (.iconst 1, 1) := by decide +kernel
theorem dX12_atom_65 : decode cX12_atom 65 = .ok (.goto 4, 3) := by decide +kernel
theorem dX12_atom_68 : decode cX12_atom 68 = .ok (.iconst 0, 1) := by decide +kernel
theorem dX12_atom_69 : decode cX12_atom 69 = .ok (.iconst 1, 1) := by decide +kernel
theorem dX12_atom_70 : decode cX12_atom 70 = .ok (.invokevirtual 152, 3) := by decide +kernel
theorem dX12_atom_73 : decode cX12_atom 73 = .ok (.aload_n 0, 1) := by decide +kernel
theorem dX12_atom_74 : decode cX12_atom 74 = .ok (.iload_n 1, 1) := by decide +kernel
theorem dX12_atom_75 : decode cX12_atom 75 = .ok (.invokevirtual 160, 3) := by decide +kernel
theorem dX12_atom_78 : decode cX12_atom 78 = .ok (.istore 4, 2) := by decide +kernel
theorem dX12_atom_80 : decode cX12_atom 80 = .ok (.goto 14, 3) := by decide +kernel
theorem dX12_atom_83 : decode cX12_atom 83 = .ok (.aload_n 0, 1) := by decide +kernel
theorem dX12_atom_84 : decode cX12_atom 84 = .ok (.iload_n 1, 1) := by decide +kernel
theorem dX12_atom_85 : decode cX12_atom 85 = .ok (.iload_n 3, 1) := by decide +kernel
theorem dX12_atom_86 : decode cX12_atom 86 = .ok (.aload_n 0, 1) := by decide +kernel
theorem dX12_atom_87 : decode cX12_atom 87 = .ok (.getfield 9, 3) := by decide +kernel
theorem dX12_atom_90 : decode cX12_atom 90 = .ok (.irem, 1) := by decide +kernel
theorem dX12_atom_91 : decode cX12_atom 91 = .ok (.invokevirtual 171, 3) := by decide +kernel
theorem dX12_atom_94 : decode cX12_atom 94 = .ok (.return_, 1) := by decide +kernel
theorem dX12_makesStep_0 : decode cX12_makesStep 0 = .ok (.bipush 29, 2) := by decide +kernel
theorem dX12_makesStep_2 : decode cX12_makesStep 2 = .ok (.iload_n 1, 1) := by decide +kernel
theorem dX12_makesStep_3 : decode cX12_makesStep 3 = .ok (.iadd, 1) := by decide +kernel
theorem dX12_makesStep_4 : decode cX12_makesStep 4 = .ok (.istore_n 2, 1) := by decide +kernel
theorem dX12_makesStep_5 : decode cX12_makesStep 5 = .ok (.aload_n 0, 1) := by decide +kernel
theorem dX12_makesStep_6 : decode cX12_makesStep 6 = .ok (.bipush 54, 2) := by decide +kernel
theorem dX12_makesStep_8 : decode cX12_makesStep 8 = .ok (.iconst 2, 1) := by decide +kernel
theorem dX12_makesStep_9 : decode cX12_makesStep 9 = .ok (.iload_n 1, 1) := by decide +kernel
theorem dX12_makesStep_10 : decode cX12_makesStep 10 = .ok (.imul, 1) := by decide +kernel
theorem dX12_makesStep_11 : decode cX12_makesStep 11 = .ok (.invokevirtual 366, 3) := by decide +kernel
theorem dX12_makesStep_14 : decode cX12_makesStep 14 = .ok (.aload_n 0, 1) := by decide +kernel
theorem dX12_makesStep_15 : decode cX12_makesStep 15 = .ok (.getfield 92, 3) := by decide +kernel
theorem dX12_makesStep_18 : decode cX12_makesStep 18 = .ok (.iload_n 1, 1) := by decide +kernel
theorem dX12_makesStep_19 : decode cX12_makesStep 19 = .ok (.iaload, 1) := by decide +kernel
theorem dX12_makesStep_20 : decode cX12_makesStep 20 = .ok (.ifCond .eq 25, 3) := by decide +kernel
theorem dX12_makesStep_23 : decode cX12_makesStep 23 = .ok (.aload_n 0, 1) := by decide +kernel
theorem dX12_makesStep_24 : decode cX12_makesStep 24 = .ok (.getfield 92, 3) := by decide +kernel
theorem dX12_makesStep_27 : decode cX12_makesStep 27 = .ok (.iload_n 1, 1) := by decide +kernel
theorem dX12_makesStep_28 : decode cX12_makesStep 28 = .ok (.iaload, 1) := by decide +kernel
theorem dX12_makesStep_29 : decode cX12_makesStep 29 = .ok (.bipush 94, 2) := by decide +kernel
theorem dX12_makesStep_31 : decode cX12_makesStep 31 = .ok (.if_icmp .eq 14, 3) := by decide +kernel
theorem dX12_makesStep_34 : decode cX12_makesStep 34 = .ok (.aload_n 0, 1) := by decide +kernel
theorem dX12_makesStep_35 : decode cX12_makesStep 35 = .ok (.bipush 55, 2) := by decide +kernel
theorem dX12_makesStep_37 : decode cX12_makesStep 37 = .ok (.iconst 2, 1) := by decide +kernel
theorem dX12_makesStep_38 : decode cX12_makesStep 38 = .ok (.iload_n 1, 1) := by decide +kernel
theorem dX12_makesStep_39 : decode cX12_makesStep 39 = .ok (.imul, 1) := by decide +kernel
theorem dX12_makesStep_40 : decode cX12_makesStep 40 = .ok (.iconst 1, 1) := by decide +kernel
theorem dX12_makesStep_41 : decode cX12_makesStep 41 = .ok (.iadd, 1) := by decide +kernel
theorem dX12_makesStep_42 : decode cX12_makesStep 42 = .ok (.invokevirtual 366, 3) := by decide +kernel
theorem dX12_makesStep_45 : decode cX12_makesStep 45 = .ok (.aload_n 0, 1) := by decide +kernel
theorem dX12_makesStep_46 : decode cX12_makesStep 46 = .ok (.getfield 92, 3) := by decide +kernel
theorem dX12_makesStep_49 : decode cX12_makesStep 49 = .ok (.iload_n 1, 1) := by decide +kernel
theorem dX12_makesStep_50 : decode cX12_makesStep 50 = .ok (.iaload, 1) := by decide +kernel
theorem dX12_makesStep_51 : decode cX12_makesStep 51 = .ok (.lookupswitch 91 #[(42, 63), (43, 41), (45, 52), (94, 73)], 41) := by decide +kernel
theorem dX12_makesStep_92 : decode cX12_makesStep 92 = .ok (.aload_n 0, 1) := by decide +kernel
theorem dX12_makesStep_93 : decode cX12_makesStep 93 = .ok (.iload_n 2, 1) := by decide +kernel
theorem dX12_makesStep_94 : decode cX12_makesStep 94 = .ok (.bipush 54, 2) := by decide +kernel
theorem dX12_makesStep_96 : decode cX12_makesStep 96 = .ok (.bipush 55, 2) := by decide +kernel
theorem dX12_makesStep_98 : decode cX12_makesStep 98 = .ok (.iconst 1, 1) := by decide +kernel
theorem dX12_makesStep_99 : decode cX12_makesStep 99 = .ok (.invokevirtual 281, 3) := by decide +kernel
theorem dX12_makesStep_102 : decode cX12_makesStep 102 = .ok (.ireturn, 1) := by decide +kernel
theorem dX12_makesStep_103 : decode cX12_makesStep 103 = .ok (.aload_n 0, 1) := by decide +kernel
theorem dX12_makesStep_104 : decode cX12_makesStep 104 = .ok (.iload_n 2, 1) := by decide +kernel
theorem dX12_makesStep_105 : decode cX12_makesStep 105 = .ok (.bipush 54, 2) := by decide +kernel
theorem dX12_makesStep_107 : decode cX12_makesStep 107 = .ok (.bipush 55, 2) := by decide +kernel
theorem dX12_makesStep_109 : decode cX12_makesStep 109 = .ok (.iconst (-1), 1) := by decide +kernel
theorem dX12_makesStep_110 : decode cX12_makesStep 110 = .ok (.invokevirtual 281, 3) := by decide +kernel
theorem dX12_makesStep_113 : decode cX12_makesStep 113 = .ok (.ireturn, 1) := by decide +kernel
theorem dX12_makesStep_114 : decode cX12_makesStep 114 = .ok (.aload_n 0, 1) := by decide +kernel
theorem dX12_makesStep_115 : decode cX12_makesStep 115 = .ok (.iload_n 2, 1) := by decide +kernel
theorem dX12_makesStep_116 : decode cX12_makesStep 116 = .ok (.bipush 54, 2) := by decide +kernel
theorem dX12_makesStep_118 : decode cX12_makesStep 118 = .ok (.bipush 55, 2) := by decide +kernel
theorem dX12_makesStep_120 : decode cX12_makesStep 120 = .ok (.invokevirtual 174, 3) := by decide +kernel
theorem dX12_makesStep_123 : decode cX12_makesStep 123 = .ok (.ireturn, 1) := by decide +kernel
theorem dX12_makesStep_124 : decode cX12_makesStep 124 = .ok (.aload_n 0, 1) := by decide +kernel
theorem dX12_makesStep_125 : decode cX12_makesStep 125 = .ok (.iload_n 2, 1) := by decide +kernel
theorem dX12_makesStep_126 : decode cX12_makesStep 126 = .ok (.bipush 54, 2) := by decide +kernel
theorem dX12_makesStep_128 : decode cX12_makesStep 128 = .ok (.aload_n 0, 1) := by decide +kernel
theorem dX12_makesStep_129 : decode cX12_makesStep 129 = .ok (.getfield 98, 3) := by decide +kernel
theorem dX12_makesStep_132 : decode cX12_makesStep 132 = .ok (.iconst 2, 1) := by decide +kernel
theorem dX12_makesStep_133 : decode cX12_makesStep 133 = .ok (.iload_n 1, 1) := by decide +kernel
theorem dX12_makesStep_134 : decode cX12_makesStep 134 = .ok (.imul, 1) := by decide +kernel
theorem dX12_makesStep_135 : decode cX12_makesStep 135 = .ok (.iconst 1, 1) := by decide +kernel
theorem dX12_makesStep_136 : decode cX12_makesStep 136 = .ok (.iadd, 1) := by decide +kernel
theorem dX12_makesStep_137 : decode cX12_makesStep 137 = .ok (.iaload, 1) := by decide +kernel
theorem dX12_makesStep_138 : decode cX12_makesStep 138 = .ok (.invokevirtual 287, 3) := by decide +kernel
theorem dX12_makesStep_141 : decode cX12_makesStep 141 = .ok (.ireturn, 1) := by decide +kernel
theorem dX12_makesStep_142 : decode cX12_makesStep 142 = .ok (.aload_n 0, 1) := by decide +kernel
theorem dX12_makesStep_143 : decode cX12_makesStep 143 = .ok (.iload_n 2, 1) := by decide +kernel
theorem dX12_makesStep_144 : decode cX12_makesStep 144 = .ok (.bipush 54, 2) := by decide +kernel
theorem dX12_makesStep_146 : decode cX12_makesStep 146 = .ok (.invokevirtual 168, 3) := by decide +kernel
theorem dX12_makesStep_149 : decode cX12_makesStep 149 = .ok (.iconst 1, 1) := by decide +kernel
theorem dX12_makesStep_150 : decode cX12_makesStep 150 = .ok (.ireturn, 1) := by decide +kernel
theorem dX12_takesProgram_0 : decode cX12_takesProgram 0 = .ok (.aload_n 0, 1) := by decide +kernel
theorem dX12_takesProgram_1 : decode cX12_takesProgram 1 = .ok (.aload_n 0, 1) := by decide +kernel
theorem dX12_takesProgram_2 : decode cX12_takesProgram 2 = .ok (.getfield 369, 3) := by decide +kernel
theorem dX12_takesProgram_5 : decode cX12_takesProgram 5 = .ok (.putfield 194, 3) := by decide +kernel
theorem dX12_takesProgram_8 : decode cX12_takesProgram 8 = .ok (.iconst 0, 1) := by decide +kernel
theorem dX12_takesProgram_9 : decode cX12_takesProgram 9 = .ok (.istore_n 1, 1) := by decide +kernel
theorem dX12_takesProgram_10 : decode cX12_takesProgram 10 = .ok (.iload_n 1, 1) := by decide +kernel
theorem dX12_takesProgram_11 : decode cX12_takesProgram 11 = .ok (.aload_n 0, 1) := by decide +kernel
theorem dX12_takesProgram_12 : decode cX12_takesProgram 12 = .ok (.getfield 194, 3) := by decide +kernel
theorem dX12_takesProgram_15 : decode cX12_takesProgram 15 = .ok (.if_icmp .ge 45, 3) := by decide +kernel
theorem dX12_takesProgram_18 : decode cX12_takesProgram 18 = .ok (.aload_n 0, 1) := by decide +kernel
theorem dX12_takesProgram_19 : decode cX12_takesProgram 19 = .ok (.getfield 77, 3) := by decide +kernel
theorem dX12_takesProgram_22 : decode cX12_takesProgram 22 = .ok (.iload_n 1, 1) := by decide +kernel
theorem dX12_takesProgram_23 : decode cX12_takesProgram 23 = .ok (.aload_n 0, 1) := by decide +kernel
theorem dX12_takesProgram_24 : decode cX12_takesProgram 24 = .ok (.getfield 89, 3) := by decide +kernel
theorem dX12_takesProgram_27 : decode cX12_takesProgram 27 = .ok (.iload_n 1, 1) := by decide +kernel
theorem dX12_takesProgram_28 : decode cX12_takesProgram 28 = .ok (.iaload, 1) := by decide +kernel
theorem dX12_takesProgram_29 : decode cX12_takesProgram 29 = .ok (.iastore, 1) := by decide +kernel
theorem dX12_takesProgram_30 : decode cX12_takesProgram 30 = .ok (.aload_n 0, 1) := by decide +kernel
theorem dX12_takesProgram_31 : decode cX12_takesProgram 31 = .ok (.getfield 80, 3) := by decide +kernel
theorem dX12_takesProgram_34 : decode cX12_takesProgram 34 = .ok (.iload_n 1, 1) := by decide +kernel
theorem dX12_takesProgram_35 : decode cX12_takesProgram 35 = .ok (.aload_n 0, 1) := by decide +kernel
theorem dX12_takesProgram_36 : decode cX12_takesProgram 36 = .ok (.getfield 92, 3) := by decide +kernel
theorem dX12_takesProgram_39 : decode cX12_takesProgram 39 = .ok (.iload_n 1, 1) := by decide +kernel
theorem dX12_takesProgram_40 : decode cX12_takesProgram 40 = .ok (.iaload, 1) := by decide +kernel
theorem dX12_takesProgram_41 : decode cX12_takesProgram 41 = .ok (.iastore, 1) := by decide +kernel
theorem dX12_takesProgram_42 : decode cX12_takesProgram 42 = .ok (.aload_n 0, 1) := by decide +kernel
theorem dX12_takesProgram_43 : decode cX12_takesProgram 43 = .ok (.bipush 6, 2) := by decide +kernel
theorem dX12_takesProgram_45 : decode cX12_takesProgram 45 = .ok (.iload_n 1, 1) := by decide +kernel
theorem dX12_takesProgram_46 : decode cX12_takesProgram 46 = .ok (.iadd, 1) := by decide +kernel
theorem dX12_takesProgram_47 : decode cX12_takesProgram 47 = .ok (.bipush 29, 2) := by decide +kernel
theorem dX12_takesProgram_49 : decode cX12_takesProgram 49 = .ok (.iload_n 1, 1) := by decide +kernel
theorem dX12_takesProgram_50 : decode cX12_takesProgram 50 = .ok (.iadd, 1) := by decide +kernel
theorem dX12_takesProgram_51 : decode cX12_takesProgram 51 = .ok (.invokevirtual 168, 3) := by decide +kernel
theorem dX12_takesProgram_54 : decode cX12_takesProgram 54 = .ok (.iinc 1 1, 3) := by decide +kernel
theorem dX12_takesProgram_57 : decode cX12_takesProgram 57 = .ok (.goto (-47), 3) := by decide +kernel
theorem dX12_takesProgram_60 : decode cX12_takesProgram 60 = .ok (.iconst 0, 1) := by decide +kernel
theorem dX12_takesProgram_61 : decode cX12_takesProgram 61 = .ok (.istore_n 1, 1) := by decide +kernel
theorem dX12_takesProgram_62 : decode cX12_takesProgram 62 = .ok (.iload_n 1, 1) := by decide +kernel
theorem dX12_takesProgram_63 : decode cX12_takesProgram 63 = .ok (.iconst 2, 1) := by decide +kernel
theorem dX12_takesProgram_64 : decode cX12_takesProgram 64 = .ok (.aload_n 0, 1) := by decide +kernel
theorem dX12_takesProgram_65 : decode cX12_takesProgram 65 = .ok (.getfield 194, 3) := by decide +kernel
theorem dX12_takesProgram_68 : decode cX12_takesProgram 68 = .ok (.imul, 1) := by decide +kernel
theorem dX12_takesProgram_69 : decode cX12_takesProgram 69 = .ok (.if_icmp .ge 33, 3) := by decide +kernel
theorem dX12_takesProgram_72 : decode cX12_takesProgram 72 = .ok (.aload_n 0, 1) := by decide +kernel
theorem dX12_takesProgram_73 : decode cX12_takesProgram 73 = .ok (.getfield 83, 3) := by decide +kernel
theorem dX12_takesProgram_76 : decode cX12_takesProgram 76 = .ok (.iload_n 1, 1) := by decide +kernel
theorem dX12_takesProgram_77 : decode cX12_takesProgram 77 = .ok (.aload_n 0, 1) := by decide +kernel
theorem dX12_takesProgram_78 : decode cX12_takesProgram 78 = .ok (.getfield 95, 3) := by decide +kernel
theorem dX12_takesProgram_81 : decode cX12_takesProgram 81 = .ok (.iload_n 1, 1) := by decide +kernel
theorem dX12_takesProgram_82 : decode cX12_takesProgram 82 = .ok (.iaload, 1) := by decide +kernel
theorem dX12_takesProgram_83 : decode cX12_takesProgram 83 = .ok (.iastore, 1) := by decide +kernel
theorem dX12_takesProgram_84 : decode cX12_takesProgram 84 = .ok (.aload_n 0, 1) := by decide +kernel
theorem dX12_takesProgram_85 : decode cX12_takesProgram 85 = .ok (.getfield 86, 3) := by decide +kernel
theorem dX12_takesProgram_88 : decode cX12_takesProgram 88 = .ok (.iload_n 1, 1) := by decide +kernel
theorem dX12_takesProgram_89 : decode cX12_takesProgram 89 = .ok (.aload_n 0, 1) := by decide +kernel
theorem dX12_takesProgram_90 : decode cX12_takesProgram 90 = .ok (.getfield 98, 3) := by decide +kernel
theorem dX12_takesProgram_93 : decode cX12_takesProgram 93 = .ok (.iload_n 1, 1) := by decide +kernel
theorem dX12_takesProgram_94 : decode cX12_takesProgram 94 = .ok (.iaload, 1) := by decide +kernel
theorem dX12_takesProgram_95 : decode cX12_takesProgram 95 = .ok (.iastore, 1) := by decide +kernel
theorem dX12_takesProgram_96 : decode cX12_takesProgram 96 = .ok (.iinc 1 1, 3) := by decide +kernel
theorem dX12_takesProgram_99 : decode cX12_takesProgram 99 = .ok (.goto (-37), 3) := by decide +kernel
theorem dX12_takesProgram_102 : decode cX12_takesProgram 102 = .ok (.return_, 1) := by decide +kernel
theorem dX12_tell_0 : decode cX12_tell 0 = .ok (.aload_n 0, 1) := by decide +kernel
theorem dX12_tell_1 : decode cX12_tell 1 = .ok (.iconst 0, 1) := by decide +kernel
theorem dX12_tell_2 : decode cX12_tell 2 = .ok (.putfield 116, 3) := by decide +kernel
theorem dX12_tell_5 : decode cX12_tell 5 = .ok (.iload_n 1, 1) := by decide +kernel
theorem dX12_tell_6 : decode cX12_tell 6 = .ok (.invokestatic 265, 3) := by decide +kernel
theorem dX12_tell_9 : decode cX12_tell 9 = .ok (.ifCond .eq 15, 3) := by decide +kernel
theorem dX12_tell_12 : decode cX12_tell 12 = .ok (.iload_n 2, 1) := by decide +kernel
theorem dX12_tell_13 : decode cX12_tell 13 = .ok (.ifCond .lt 11, 3) := by decide +kernel
theorem dX12_tell_16 : decode cX12_tell 16 = .ok (.iload_n 2, 1) := by decide +kernel
theorem dX12_tell_17 : decode cX12_tell 17 = .ok (.aload_n 0, 1) := by decide +kernel
theorem dX12_tell_18 : decode cX12_tell 18 = .ok (.getfield 311, 3) := by decide +kernel
theorem dX12_tell_21 : decode cX12_tell 21 = .ok (.if_icmp .le 9, 3) := by decide +kernel
theorem dX12_tell_24 : decode cX12_tell 24 = .ok (.aload_n 0, 1) := by decide +kernel
theorem dX12_tell_25 : decode cX12_tell 25 = .ok (.iconst 1, 1) := by decide +kernel
theorem dX12_tell_26 : decode cX12_tell 26 = .ok (.invokevirtual 317, 3) := by decide +kernel
theorem dX12_tell_29 : decode cX12_tell 29 = .ok (.ireturn, 1) := by decide +kernel
theorem dX12_tell_30 : decode cX12_tell 30 = .ok (.aload_n 0, 1) := by decide +kernel
theorem dX12_tell_31 : decode cX12_tell 31 = .ok (.iload_n 2, 1) := by decide +kernel
theorem dX12_tell_32 : decode cX12_tell 32 = .ok (.invokevirtual 372, 3) := by decide +kernel
theorem dX12_tell_35 : decode cX12_tell 35 = .ok (.aload_n 0, 1) := by decide +kernel
theorem dX12_tell_36 : decode cX12_tell 36 = .ok (.invokevirtual 375, 3) := by decide +kernel
theorem dX12_tell_39 : decode cX12_tell 39 = .ok (.aload_n 0, 1) := by decide +kernel
theorem dX12_tell_40 : decode cX12_tell 40 = .ok (.iconst 0, 1) := by decide +kernel
theorem dX12_tell_41 : decode cX12_tell 41 = .ok (.putfield 311, 3) := by decide +kernel
theorem dX12_tell_44 : decode cX12_tell 44 = .ok (.aload_n 0, 1) := by decide +kernel
theorem dX12_tell_45 : decode cX12_tell 45 = .ok (.aload_n 0, 1) := by decide +kernel
theorem dX12_tell_46 : decode cX12_tell 46 = .ok (.getfield 378, 3) := by decide +kernel
theorem dX12_tell_49 : decode cX12_tell 49 = .ok (.ifCond .ne 7, 3) := by decide +kernel
theorem dX12_tell_52 : decode cX12_tell 52 = .ok (.iconst (-1), 1) := by decide +kernel
theorem dX12_tell_53 : decode cX12_tell 53 = .ok (.goto 7, 3) := by decide +kernel
theorem dX12_tell_56 : decode cX12_tell 56 = .ok (.aload_n 0, 1) := by decide +kernel
theorem dX12_tell_57 : decode cX12_tell 57 = .ok (.getfield 381, 3) := by decide +kernel
theorem dX12_tell_60 : decode cX12_tell 60 = .ok (.putfield 113, 3) := by decide +kernel
theorem dX12_tell_63 : decode cX12_tell 63 = .ok (.aload_n 0, 1) := by decide +kernel
theorem dX12_tell_64 : decode cX12_tell 64 = .ok (.getfield 378, 3) := by decide +kernel
theorem dX12_tell_67 : decode cX12_tell 67 = .ok (.ifCond .eq 11, 3) := by decide +kernel
theorem dX12_tell_70 : decode cX12_tell 70 = .ok (.bipush (-10), 2) := by decide +kernel
theorem dX12_tell_72 : decode cX12_tell 72 = .ok (.aload_n 0, 1) := by decide +kernel
theorem dX12_tell_73 : decode cX12_tell 73 = .ok (.getfield 378, 3) := by decide +kernel
theorem dX12_tell_76 : decode cX12_tell 76 = .ok (.isub, 1) := by decide +kernel
theorem dX12_tell_77 : decode cX12_tell 77 = .ok (.ireturn, 1) := by decide +kernel
theorem dX12_tell_78 : decode cX12_tell 78 = .ok (.iconst 0, 1) := by decide +kernel
theorem dX12_tell_79 : decode cX12_tell 79 = .ok (.istore_n 3, 1) := by decide +kernel
theorem dX12_tell_80 : decode cX12_tell 80 = .ok (.iload_n 3, 1) := by decide +kernel
theorem dX12_tell_81 : decode cX12_tell 81 = .ok (.aload_n 0, 1) := by decide +kernel
theorem dX12_tell_82 : decode cX12_tell 82 = .ok (.getfield 369, 3) := by decide +kernel
theorem dX12_tell_85 : decode cX12_tell 85 = .ok (.if_icmp .ge 20, 3) := by decide +kernel
theorem dX12_tell_88 : decode cX12_tell 88 = .ok (.aload_n 0, 1) := by decide +kernel
theorem dX12_tell_89 : decode cX12_tell 89 = .ok (.iload_n 3, 1) := by decide +kernel
theorem dX12_tell_90 : decode cX12_tell 90 = .ok (.invokevirtual 384, 3) := by decide +kernel
theorem dX12_tell_93 : decode cX12_tell 93 = .ok (.ifCond .ne 6, 3) := by decide +kernel
theorem dX12_tell_96 : decode cX12_tell 96 = .ok (.bipush (-2), 2) := by decide +kernel
theorem dX12_tell_98 : decode cX12_tell 98 = .ok (.ireturn, 1) := by decide +kernel
theorem dX12_tell_99 : decode cX12_tell 99 = .ok (.iinc 3 1, 3) := by decide +kernel
theorem dX12_tell_102 : decode cX12_tell 102 = .ok (.goto (-22), 3) := by decide +kernel
theorem dX12_tell_105 : decode cX12_tell 105 = .ok (.aload_n 0, 1) := by decide +kernel
theorem dX12_tell_106 : decode cX12_tell 106 = .ok (.invokevirtual 387, 3) := by decide +kernel
theorem dX12_tell_109 : decode cX12_tell 109 = .ok (.aload_n 0, 1) := by decide +kernel
theorem dX12_tell_110 : decode cX12_tell 110 = .ok (.iload_n 1, 1) := by decide +kernel
theorem dX12_tell_111 : decode cX12_tell 111 = .ok (.bipush 6, 2) := by decide +kernel
theorem dX12_tell_113 : decode cX12_tell 113 = .ok (.aload_n 0, 1) := by decide +kernel
theorem dX12_tell_114 : decode cX12_tell 114 = .ok (.getfield 194, 3) := by decide +kernel
theorem dX12_tell_117 : decode cX12_tell 117 = .ok (.iadd, 1) := by decide +kernel
theorem dX12_tell_118 : decode cX12_tell 118 = .ok (.iconst 1, 1) := by decide +kernel
theorem dX12_tell_119 : decode cX12_tell 119 = .ok (.isub, 1) := by decide +kernel
theorem dX12_tell_120 : decode cX12_tell 120 = .ok (.invokevirtual 275, 3) := by decide +kernel
theorem dX12_tell_123 : decode cX12_tell 123 = .ok (.ireturn, 1) := by decide +kernel
theorem dX12_isName_0 : decode cX12_isName 0 = .ok (.aload_n 0, 1) := by decide +kernel
theorem dX12_isName_1 : decode cX12_isName 1 = .ok (.getfield 83, 3) := by decide +kernel
theorem dX12_isName_4 : decode cX12_isName 4 = .ok (.iload_n 1, 1) := by decide +kernel
theorem dX12_isName_5 : decode cX12_isName 5 = .ok (.iaload, 1) := by decide +kernel
theorem dX12_isName_6 : decode cX12_isName 6 = .ok (.iconst 2, 1) := by decide +kernel
theorem dX12_isName_7 : decode cX12_isName 7 = .ok (.if_icmp .ne 37, 3) := by decide +kernel
theorem dX12_isName_10 : decode cX12_isName 10 = .ok (.iload_n 1, 1) := by decide +kernel
theorem dX12_isName_11 : decode cX12_isName 11 = .ok (.iconst 2, 1) := by decide +kernel
theorem dX12_isName_12 : decode cX12_isName 12 = .ok (.irem, 1) := by decide +kernel
theorem dX12_isName_13 : decode cX12_isName 13 = .ok (.ifCond .eq 27, 3) := by decide +kernel
theorem dX12_isName_16 : decode cX12_isName 16 = .ok (.aload_n 0, 1) := by decide +kernel
theorem dX12_isName_17 : decode cX12_isName 17 = .ok (.getfield 80, 3) := by decide +kernel
theorem dX12_isName_20 : decode cX12_isName 20 = .ok (.iload_n 1, 1) := by decide +kernel
theorem dX12_isName_21 : decode cX12_isName 21 = .ok (.iconst 2, 1) := by decide +kernel
theorem dX12_isName_22 : decode cX12_isName 22 = .ok (.idiv, 1) := by decide +kernel
theorem dX12_isName_23 : decode cX12_isName 23 = .ok (.iaload, 1) := by decide +kernel
theorem dX12_isName_24 : decode cX12_isName 24 = .ok (.ifCond .eq 20, 3) := by decide +kernel
theorem dX12_isName_27 : decode cX12_isName 27 = .ok (.aload_n 0, 1) := by decide +kernel
theorem dX12_isName_28 : decode cX12_isName 28 = .ok (.getfield 80, 3) := by decide +kernel
theorem dX12_isName_31 : decode cX12_isName 31 = .ok (.iload_n 1, 1) := by decide +kernel
theorem dX12_isName_32 : decode cX12_isName 32 = .ok (.iconst 2, 1) := by decide +kernel
theorem dX12_isName_33 : decode cX12_isName 33 = .ok (.idiv, 1) := by decide +kernel
theorem dX12_isName_34 : decode cX12_isName 34 = .ok (.iaload, 1) := by decide +kernel
theorem dX12_isName_35 : decode cX12_isName 35 = .ok (.bipush 94, 2) := by decide +kernel
theorem dX12_isName_37 : decode cX12_isName 37 = .ok (.if_icmp .eq 7, 3) := by decide +kernel
theorem dX12_isName_40 : decode cX12_isName 40 = .ok (.iconst 1, 1) := by decide +kernel
theorem dX12_isName_41 : decode cX12_isName 41 = .ok (.goto 4, 3) := by decide +kernel
theorem dX12_isName_44 : decode cX12_isName 44 = .ok (.iconst 0, 1) := by decide +kernel
theorem dX12_isName_45 : decode cX12_isName 45 = .ok (.ireturn, 1) := by decide +kernel
theorem dX12_has_0 : decode cX12_has 0 = .ok (.aload_n 0, 1) := by decide +kernel
theorem dX12_has_1 : decode cX12_has 1 = .ok (.iconst 2, 1) := by decide +kernel
theorem dX12_has_2 : decode cX12_has 2 = .ok (.iload_n 1, 1) := by decide +kernel
theorem dX12_has_3 : decode cX12_has 3 = .ok (.imul, 1) := by decide +kernel
theorem dX12_has_4 : decode cX12_has 4 = .ok (.invokevirtual 390, 3) := by decide +kernel
theorem dX12_has_7 : decode cX12_has 7 = .ok (.ifCond .eq 15, 3) := by decide +kernel
theorem dX12_has_10 : decode cX12_has 10 = .ok (.aload_n 0, 1) := by decide +kernel
theorem dX12_has_11 : decode cX12_has 11 = .ok (.getfield 86, 3) := by decide +kernel
theorem dX12_has_14 : decode cX12_has 14 = .ok (.iconst 2, 1) := by decide +kernel
theorem dX12_has_15 : decode cX12_has 15 = .ok (.iload_n 1, 1) := by decide +kernel
theorem dX12_has_16 : decode cX12_has 16 = .ok (.imul, 1) := by decide +kernel
theorem dX12_has_17 : decode cX12_has 17 = .ok (.iaload, 1) := by decide +kernel
theorem dX12_has_18 : decode cX12_has 18 = .ok (.iload_n 2, 1) := by decide +kernel
theorem dX12_has_19 : decode cX12_has 19 = .ok (.if_icmp .eq 29, 3) := by decide +kernel
theorem dX12_has_22 : decode cX12_has 22 = .ok (.aload_n 0, 1) := by decide +kernel
theorem dX12_has_23 : decode cX12_has 23 = .ok (.iconst 2, 1) := by decide +kernel
theorem dX12_has_24 : decode cX12_has 24 = .ok (.iload_n 1, 1) := by decide +kernel
theorem dX12_has_25 : decode cX12_has 25 = .ok (.imul, 1) := by decide +kernel
theorem dX12_has_26 : decode cX12_has 26 = .ok (.iconst 1, 1) := by decide +kernel
theorem dX12_has_27 : decode cX12_has 27 = .ok (.iadd, 1) := by decide +kernel
theorem dX12_has_28 : decode cX12_has 28 = .ok (.invokevirtual 390, 3) := by decide +kernel
theorem dX12_has_31 : decode cX12_has 31 = .ok (.ifCond .eq 21, 3) := by decide +kernel
theorem dX12_has_34 : decode cX12_has 34 = .ok (.aload_n 0, 1) := by decide +kernel
theorem dX12_has_35 : decode cX12_has 35 = .ok (.getfield 86, 3) := by decide +kernel
theorem dX12_has_38 : decode cX12_has 38 = .ok (.iconst 2, 1) := by decide +kernel
theorem dX12_has_39 : decode cX12_has 39 = .ok (.iload_n 1, 1) := by decide +kernel
theorem dX12_has_40 : decode cX12_has 40 = .ok (.imul, 1) := by decide +kernel
theorem dX12_has_41 : decode cX12_has 41 = .ok (.iconst 1, 1) := by decide +kernel
theorem dX12_has_42 : decode cX12_has 42 = .ok (.iadd, 1) := by decide +kernel
theorem dX12_has_43 : decode cX12_has 43 = .ok (.iaload, 1) := by decide +kernel
theorem dX12_has_44 : decode cX12_has 44 = .ok (.iload_n 2, 1) := by decide +kernel
theorem dX12_has_45 : decode cX12_has 45 = .ok (.if_icmp .ne 7, 3) := by decide +kernel
theorem dX12_has_48 : decode cX12_has 48 = .ok (.iconst 1, 1) := by decide +kernel
theorem dX12_has_49 : decode cX12_has 49 = .ok (.goto 4, 3) := by decide +kernel
theorem dX12_has_52 : decode cX12_has 52 = .ok (.iconst 0, 1) := by decide +kernel
theorem dX12_has_53 : decode cX12_has 53 = .ok (.ireturn, 1) := by decide +kernel
theorem dX12_boundOfAtom_0 : decode cX12_boundOfAtom 0 = .ok (.aload_n 0, 1) := by decide +kernel
theorem dX12_boundOfAtom_1 : decode cX12_boundOfAtom 1 = .ok (.getfield 83, 3) := by decide +kernel
theorem dX12_boundOfAtom_4 : decode cX12_boundOfAtom 4 = .ok (.iload_n 1, 1) := by decide +kernel
theorem dX12_boundOfAtom_5 : decode cX12_boundOfAtom 5 = .ok (.iaload, 1) := by decide +kernel
theorem dX12_boundOfAtom_6 : decode cX12_boundOfAtom 6 = .ok (.ifCond .ne 7, 3) := by decide +kernel
theorem dX12_boundOfAtom_9 : decode cX12_boundOfAtom 9 = .ok (.iconst 0, 1) := by decide +kernel
theorem dX12_boundOfAtom_10 : decode cX12_boundOfAtom 10 = .ok (.goto 28, 3) := by decide +kernel
theorem dX12_boundOfAtom_13 : decode cX12_boundOfAtom 13 = .ok (.aload_n 0, 1) := by decide +kernel
theorem dX12_boundOfAtom_14 : decode cX12_boundOfAtom 14 = .ok (.getfield 83, 3) := by decide +kernel
theorem dX12_boundOfAtom_17 : decode cX12_boundOfAtom 17 = .ok (.iload_n 1, 1) := by decide +kernel
theorem dX12_boundOfAtom_18 : decode cX12_boundOfAtom 18 = .ok (.iaload, 1) := by decide +kernel
theorem dX12_boundOfAtom_19 : decode cX12_boundOfAtom 19 = .ok (.iconst 1, 1) := by decide +kernel
theorem dX12_boundOfAtom_20 : decode cX12_boundOfAtom 20 = .ok (.if_icmp .ne 7, 3) := by decide +kernel
theorem dX12_boundOfAtom_23 : decode cX12_boundOfAtom 23 = .ok (.iconst 1, 1) := by decide +kernel
theorem dX12_boundOfAtom_24 : decode cX12_boundOfAtom 24 = .ok (.goto 14, 3) := by decide +kernel
theorem dX12_boundOfAtom_27 : decode cX12_boundOfAtom 27 = .ok (.aload_n 0, 1) := by decide +kernel
theorem dX12_boundOfAtom_28 : decode cX12_boundOfAtom 28 = .ok (.getfield 101, 3) := by decide +kernel
theorem dX12_boundOfAtom_31 : decode cX12_boundOfAtom 31 = .ok (.aload_n 0, 1) := by decide +kernel
theorem dX12_boundOfAtom_32 : decode cX12_boundOfAtom 32 = .ok (.getfield 86, 3) := by decide +kernel
theorem dX12_boundOfAtom_35 : decode cX12_boundOfAtom 35 = .ok (.iload_n 1, 1) := by decide +kernel
theorem dX12_boundOfAtom_36 : decode cX12_boundOfAtom 36 = .ok (.iaload, 1) := by decide +kernel
theorem dX12_boundOfAtom_37 : decode cX12_boundOfAtom 37 = .ok (.iaload, 1) := by decide +kernel
theorem dX12_boundOfAtom_38 : decode cX12_boundOfAtom 38 = .ok (.ireturn, 1) := by decide +kernel
theorem dX12_boundOf_0 : decode cX12_boundOf 0 = .ok (.iconst 0, 1) := by decide +kernel
theorem dX12_boundOf_1 : decode cX12_boundOf 1 = .ok (.istore_n 2, 1) := by decide +kernel
theorem dX12_boundOf_2 : decode cX12_boundOf 2 = .ok (.iload_n 2, 1) := by decide +kernel
theorem dX12_boundOf_3 : decode cX12_boundOf 3 = .ok (.iload_n 1, 1) := by decide +kernel
theorem dX12_boundOf_4 : decode cX12_boundOf 4 = .ok (.if_icmp .gt 118, 3) := by decide +kernel
theorem dX12_boundOf_7 : decode cX12_boundOf 7 = .ok (.aload_n 0, 1) := by decide +kernel
theorem dX12_boundOf_8 : decode cX12_boundOf 8 = .ok (.iconst 2, 1) := by decide +kernel
theorem dX12_boundOf_9 : decode cX12_boundOf 9 = .ok (.iload_n 2, 1) := by decide +kernel
theorem dX12_boundOf_10 : decode cX12_boundOf 10 = .ok (.imul, 1) := by decide +kernel
theorem dX12_boundOf_11 : decode cX12_boundOf 11 = .ok (.invokevirtual 393, 3) := by decide +kernel
theorem dX12_boundOf_14 : decode cX12_boundOf 14 = .ok (.istore_n 3, 1) := by decide +kernel
theorem dX12_boundOf_15 : decode cX12_boundOf 15 = .ok (.aload_n 0, 1) := by decide +kernel
theorem dX12_boundOf_16 : decode cX12_boundOf 16 = .ok (.getfield 80, 3) := by decide +kernel
theorem dX12_boundOf_19 : decode cX12_boundOf 19 = .ok (.iload_n 2, 1) := by decide +kernel
theorem dX12_boundOf_20 : decode cX12_boundOf 20 = .ok (.iaload, 1) := by decide +kernel
theorem dX12_boundOf_21 : decode cX12_boundOf 21 = .ok (.ifCond .eq 14, 3) := by decide +kernel
theorem dX12_boundOf_24 : decode cX12_boundOf 24 = .ok (.aload_n 0, 1) := by decide +kernel
theorem dX12_boundOf_25 : decode cX12_boundOf 25 = .ok (.getfield 80, 3) := by decide +kernel
theorem dX12_boundOf_28 : decode cX12_boundOf 28 = .ok (.iload_n 2, 1) := by decide +kernel
theorem dX12_boundOf_29 : decode cX12_boundOf 29 = .ok (.iaload, 1) := by decide +kernel
theorem dX12_boundOf_30 : decode cX12_boundOf 30 = .ok (.bipush 94, 2) := by decide +kernel
theorem dX12_boundOf_32 : decode cX12_boundOf 32 = .ok (.if_icmp .ne 7, 3) := by decide +kernel
theorem dX12_boundOf_35 : decode cX12_boundOf 35 = .ok (.iconst 0, 1) := by decide +kernel
theorem dX12_boundOf_36 : decode cX12_boundOf 36 = .ok (.goto 12, 3) := by decide +kernel
theorem dX12_boundOf_39 : decode cX12_boundOf 39 = .ok (.aload_n 0, 1) := by decide +kernel
theorem dX12_boundOf_40 : decode cX12_boundOf 40 = .ok (.iconst 2, 1) := by decide +kernel
theorem dX12_boundOf_41 : decode cX12_boundOf 41 = .ok (.iload_n 2, 1) := by decide +kernel
theorem dX12_boundOf_42 : decode cX12_boundOf 42 = .ok (.imul, 1) := by decide +kernel
theorem dX12_boundOf_43 : decode cX12_boundOf 43 = .ok (.iconst 1, 1) := by decide +kernel
theorem dX12_boundOf_44 : decode cX12_boundOf 44 = .ok (.iadd, 1) := by decide +kernel
theorem dX12_boundOf_45 : decode cX12_boundOf 45 = .ok (.invokevirtual 393, 3) := by decide +kernel
theorem dX12_boundOf_48 : decode cX12_boundOf 48 = .ok (.istore 4, 2) := by decide +kernel
theorem dX12_boundOf_50 : decode cX12_boundOf 50 = .ok (.aload_n 0, 1) := by decide +kernel
theorem dX12_boundOf_51 : decode cX12_boundOf 51 = .ok (.getfield 80, 3) := by decide +kernel
theorem dX12_boundOf_54 : decode cX12_boundOf 54 = .ok (.iload_n 2, 1) := by decide +kernel
theorem dX12_boundOf_55 : decode cX12_boundOf 55 = .ok (.iaload, 1) := by decide +kernel
theorem dX12_boundOf_56 : decode cX12_boundOf 56 = .ok (.bipush 94, 2) := by decide +kernel
theorem dX12_boundOf_58 : decode cX12_boundOf 58 = .ok (.if_icmp .ne 18, 3) := by decide +kernel
theorem dX12_boundOf_61 : decode cX12_boundOf 61 = .ok (.iload_n 3, 1) := by decide +kernel
theorem dX12_boundOf_62 : decode cX12_boundOf 62 = .ok (.aload_n 0, 1) := by decide +kernel
theorem dX12_boundOf_63 : decode cX12_boundOf 63 = .ok (.getfield 86, 3) := by decide +kernel
theorem dX12_boundOf_66 : decode cX12_boundOf 66 = .ok (.iconst 2, 1) := by decide +kernel
theorem dX12_boundOf_67 : decode cX12_boundOf 67 = .ok (.iload_n 2, 1) := by decide +kernel
theorem dX12_boundOf_68 : decode cX12_boundOf 68 = .ok (.imul, 1) := by decide +kernel
theorem dX12_boundOf_69 : decode cX12_boundOf 69 = .ok (.iconst 1, 1) := by decide +kernel
theorem dX12_boundOf_70 : decode cX12_boundOf 70 = .ok (.iadd, 1) := by decide +kernel
theorem dX12_boundOf_71 : decode cX12_boundOf 71 = .ok (.iaload, 1) := by decide +kernel
theorem dX12_boundOf_72 : decode cX12_boundOf 72 = .ok (.imul, 1) := by decide +kernel
theorem dX12_boundOf_73 : decode cX12_boundOf 73 = .ok (.goto 27, 3) := by decide +kernel
theorem dX12_boundOf_76 : decode cX12_boundOf 76 = .ok (.aload_n 0, 1) := by decide +kernel
theorem dX12_boundOf_77 : decode cX12_boundOf 77 = .ok (.getfield 80, 3) := by decide +kernel
theorem dX12_boundOf_80 : decode cX12_boundOf 80 = .ok (.iload_n 2, 1) := by decide +kernel
theorem dX12_boundOf_81 : decode cX12_boundOf 81 = .ok (.iaload, 1) := by decide +kernel
theorem dX12_boundOf_82 : decode cX12_boundOf 82 = .ok (.bipush 42, 2) := by decide +kernel
theorem dX12_boundOf_84 : decode cX12_boundOf 84 = .ok (.if_icmp .ne 10, 3) := by decide +kernel
theorem dX12_boundOf_87 : decode cX12_boundOf 87 = .ok (.iload_n 3, 1) := by decide +kernel
theorem dX12_boundOf_88 : decode cX12_boundOf 88 = .ok (.iload 4, 2) := by decide +kernel
theorem dX12_boundOf_90 : decode cX12_boundOf 90 = .ok (.iadd, 1) := by decide +kernel
theorem dX12_boundOf_91 : decode cX12_boundOf 91 = .ok (.goto 9, 3) := by decide +kernel
theorem dX12_boundOf_94 : decode cX12_boundOf 94 = .ok (.iload_n 3, 1) := by decide +kernel
theorem dX12_boundOf_95 : decode cX12_boundOf 95 = .ok (.iload 4, 2) := by decide +kernel
theorem dX12_boundOf_97 : decode cX12_boundOf 97 = .ok (.invokestatic 133, 3) := by decide +kernel
theorem dX12_boundOf_100 : decode cX12_boundOf 100 = .ok (.istore 5, 2) := by decide +kernel
theorem dX12_boundOf_102 : decode cX12_boundOf 102 = .ok (.aload_n 0, 1) := by decide +kernel
theorem dX12_boundOf_103 : decode cX12_boundOf 103 = .ok (.getfield 101, 3) := by decide +kernel
theorem dX12_boundOf_106 : decode cX12_boundOf 106 = .ok (.iload_n 2, 1) := by decide +kernel
theorem dX12_boundOf_107 : decode cX12_boundOf 107 = .ok (.ldc_w 396, 3) := by decide +kernel
theorem dX12_boundOf_110 : decode cX12_boundOf 110 = .ok (.iload 5, 2) := by decide +kernel
theorem dX12_boundOf_112 : decode cX12_boundOf 112 = .ok (.invokestatic 336, 3) := by decide +kernel
theorem dX12_boundOf_115 : decode cX12_boundOf 115 = .ok (.iastore, 1) := by decide +kernel
theorem dX12_boundOf_116 : decode cX12_boundOf 116 = .ok (.iinc 2 1, 3) := by decide +kernel
theorem dX12_boundOf_119 : decode cX12_boundOf 119 = .ok (.goto (-117), 3) := by decide +kernel
theorem dX12_boundOf_122 : decode cX12_boundOf 122 = .ok (.aload_n 0, 1) := by decide +kernel
theorem dX12_boundOf_123 : decode cX12_boundOf 123 = .ok (.getfield 101, 3) := by decide +kernel
theorem dX12_boundOf_126 : decode cX12_boundOf 126 = .ok (.iload_n 1, 1) := by decide +kernel
theorem dX12_boundOf_127 : decode cX12_boundOf 127 = .ok (.iaload, 1) := by decide +kernel
theorem dX12_boundOf_128 : decode cX12_boundOf 128 = .ok (.ireturn, 1) := by decide +kernel
theorem dX12_isStoodOn_0 : decode cX12_isStoodOn 0 = .ok (.iconst 1, 1) := by decide +kernel
theorem dX12_isStoodOn_1 : decode cX12_isStoodOn 1 = .ok (.aload_n 0, 1) := by decide +kernel
theorem dX12_isStoodOn_2 : decode cX12_isStoodOn 2 = .ok (.getfield 194, 3) := by decide +kernel
theorem dX12_isStoodOn_5 : decode cX12_isStoodOn 5 = .ok (.iconst 1, 1) := by decide +kernel
theorem dX12_isStoodOn_6 : decode cX12_isStoodOn 6 = .ok (.isub, 1) := by decide +kernel
theorem dX12_isStoodOn_7 : decode cX12_isStoodOn 7 = .ok (.ishl, 1) := by decide +kernel
theorem dX12_isStoodOn_8 : decode cX12_isStoodOn 8 = .ok (.istore_n 2, 1) := by decide +kernel
theorem dX12_isStoodOn_9 : decode cX12_isStoodOn 9 = .ok (.aload_n 0, 1) := by decide +kernel
theorem dX12_isStoodOn_10 : decode cX12_isStoodOn 10 = .ok (.getfield 194, 3) := by decide +kernel
theorem dX12_isStoodOn_13 : decode cX12_isStoodOn 13 = .ok (.iconst 1, 1) := by decide +kernel
theorem dX12_isStoodOn_14 : decode cX12_isStoodOn 14 = .ok (.isub, 1) := by decide +kernel
theorem dX12_isStoodOn_15 : decode cX12_isStoodOn 15 = .ok (.istore_n 3, 1) := by decide +kernel
theorem dX12_isStoodOn_16 : decode cX12_isStoodOn 16 = .ok (.iload_n 3, 1) := by decide +kernel
theorem dX12_isStoodOn_17 : decode cX12_isStoodOn 17 = .ok (.iload_n 1, 1) := by decide +kernel
theorem dX12_isStoodOn_18 : decode cX12_isStoodOn 18 = .ok (.if_icmp .le 50, 3) := by decide +kernel
theorem dX12_isStoodOn_21 : decode cX12_isStoodOn 21 = .ok (.iconst 0, 1) := by decide +kernel
theorem dX12_isStoodOn_22 : decode cX12_isStoodOn 22 = .ok (.istore 4, 2) := by decide +kernel
theorem dX12_isStoodOn_24 : decode cX12_isStoodOn 24 = .ok (.iload 4, 2) := by decide +kernel
theorem dX12_isStoodOn_26 : decode cX12_isStoodOn 26 = .ok (.iload_n 3, 1) := by decide +kernel
theorem dX12_isStoodOn_27 : decode cX12_isStoodOn 27 = .ok (.if_icmp .ge 35, 3) := by decide +kernel
theorem dX12_isStoodOn_30 : decode cX12_isStoodOn 30 = .ok (.iload_n 2, 1) := by decide +kernel
theorem dX12_isStoodOn_31 : decode cX12_isStoodOn 31 = .ok (.iload_n 3, 1) := by decide +kernel
theorem dX12_isStoodOn_32 : decode cX12_isStoodOn 32 = .ok (.ishr, 1) := by decide +kernel
theorem dX12_isStoodOn_33 : decode cX12_isStoodOn 33 = .ok (.iconst 1, 1) := by decide +kernel
theorem dX12_isStoodOn_34 : decode cX12_isStoodOn 34 = .ok (.iand, 1) := by decide +kernel
theorem dX12_isStoodOn_35 : decode cX12_isStoodOn 35 = .ok (.iconst 1, 1) := by decide +kernel
theorem dX12_isStoodOn_36 : decode cX12_isStoodOn 36 = .ok (.if_icmp .ne 20, 3) := by decide +kernel
theorem dX12_isStoodOn_39 : decode cX12_isStoodOn 39 = .ok (.aload_n 0, 1) := by decide +kernel
theorem dX12_isStoodOn_40 : decode cX12_isStoodOn 40 = .ok (.iload_n 3, 1) := by decide +kernel
theorem dX12_isStoodOn_41 : decode cX12_isStoodOn 41 = .ok (.iload 4, 2) := by decide +kernel
theorem dX12_isStoodOn_43 : decode cX12_isStoodOn 43 = .ok (.invokevirtual 397, 3) := by decide +kernel
theorem dX12_isStoodOn_46 : decode cX12_isStoodOn 46 = .ok (.ifCond .eq 10, 3) := by decide +kernel
theorem dX12_isStoodOn_49 : decode cX12_isStoodOn 49 = .ok (.iload_n 2, 1) := by decide +kernel
theorem dX12_isStoodOn_50 : decode cX12_isStoodOn 50 = .ok (.iconst 1, 1) := by decide +kernel
theorem dX12_isStoodOn_51 : decode cX12_isStoodOn 51 = .ok (.iload 4, 2) := by decide +kernel
theorem dX12_isStoodOn_53 : decode cX12_isStoodOn 53 = .ok (.ishl, 1) := by decide +kernel
theorem dX12_isStoodOn_54 : decode cX12_isStoodOn 54 = .ok (.ior, 1) := by decide +kernel
theorem dX12_isStoodOn_55 : decode cX12_isStoodOn 55 = .ok (.istore_n 2, 1) := by decide +kernel
theorem dX12_isStoodOn_56 : decode cX12_isStoodOn 56 = .ok (.iinc 4 1, 3) := by decide +kernel
theorem dX12_isStoodOn_59 : decode cX12_isStoodOn 59 = .ok (.goto (-35), 3) := by decide +kernel
theorem dX12_isStoodOn_62 : decode cX12_isStoodOn 62 = .ok (.iinc 3 (-1), 3) := by decide +kernel
theorem dX12_isStoodOn_65 : decode cX12_isStoodOn 65 = .ok (.goto (-49), 3) := by decide +kernel
theorem dX12_isStoodOn_68 : decode cX12_isStoodOn 68 = .ok (.iload_n 2, 1) := by decide +kernel
theorem dX12_isStoodOn_69 : decode cX12_isStoodOn 69 = .ok (.iload_n 1, 1) := by decide +kernel
theorem dX12_isStoodOn_70 : decode cX12_isStoodOn 70 = .ok (.ishr, 1) := by decide +kernel
theorem dX12_isStoodOn_71 : decode cX12_isStoodOn 71 = .ok (.iconst 1, 1) := by decide +kernel
theorem dX12_isStoodOn_72 : decode cX12_isStoodOn 72 = .ok (.iand, 1) := by decide +kernel
theorem dX12_isStoodOn_73 : decode cX12_isStoodOn 73 = .ok (.iconst 1, 1) := by decide +kernel
theorem dX12_isStoodOn_74 : decode cX12_isStoodOn 74 = .ok (.if_icmp .ne 7, 3) := by decide +kernel
theorem dX12_isStoodOn_77 : decode cX12_isStoodOn 77 = .ok (.iconst 1, 1) := by decide +kernel
theorem dX12_isStoodOn_78 : decode cX12_isStoodOn 78 = .ok (.goto 4, 3) := by decide +kernel
theorem dX12_isStoodOn_81 : decode cX12_isStoodOn 81 = .ok (.iconst 0, 1) := by decide +kernel
theorem dX12_isStoodOn_82 : decode cX12_isStoodOn 82 = .ok (.ireturn, 1) := by decide +kernel
theorem dX12_step_0 : decode cX12_step 0 = .ok (.aload_n 0, 1) := by decide +kernel
theorem dX12_step_1 : decode cX12_step 1 = .ok (.iconst 0, 1) := by decide +kernel
theorem dX12_step_2 : decode cX12_step 2 = .ok (.putfield 116, 3) := by decide +kernel
theorem dX12_step_5 : decode cX12_step 5 = .ok (.iload_n 1, 1) := by decide +kernel
theorem dX12_step_6 : decode cX12_step 6 = .ok (.iconst 0, 1) := by decide +kernel
theorem dX12_step_7 : decode cX12_step 7 = .ok (.aload_n 0, 1) := by decide +kernel
theorem dX12_step_8 : decode cX12_step 8 = .ok (.getfield 194, 3) := by decide +kernel
theorem dX12_step_11 : decode cX12_step 11 = .ok (.iconst 1, 1) := by decide +kernel
theorem dX12_step_12 : decode cX12_step 12 = .ok (.isub, 1) := by decide +kernel
theorem dX12_step_13 : decode cX12_step 13 = .ok (.invokestatic 181, 3) := by decide +kernel
theorem dX12_step_16 : decode cX12_step 16 = .ok (.ifCond .ne 9, 3) := by decide +kernel
theorem dX12_step_19 : decode cX12_step 19 = .ok (.aload_n 0, 1) := by decide +kernel
theorem dX12_step_20 : decode cX12_step 20 = .ok (.iconst 1, 1) := by decide +kernel
theorem dX12_step_21 : decode cX12_step 21 = .ok (.invokevirtual 317, 3) := by decide +kernel
theorem dX12_step_24 : decode cX12_step 24 = .ok (.ireturn, 1) := by decide +kernel
theorem dX12_step_25 : decode cX12_step 25 = .ok (.iconst 0, 1) := by decide +kernel
theorem dX12_step_26 : decode cX12_step 26 = .ok (.istore_n 3, 1) := by decide +kernel
theorem dX12_step_27 : decode cX12_step 27 = .ok (.iload_n 2, 1) := by decide +kernel
theorem dX12_step_28 : decode cX12_step 28 = .ok (.tableswitch 151 0 6 #[44, 50, 59, 69, 76, 90, 113], 44) := by decide +kernel
theorem dX12_step_72 : decode cX12_step 72 = .ok (.aload_n 0, 1) := by decide +kernel
theorem dX12_step_73 : decode cX12_step 73 = .ok (.iload_n 1, 1) := by decide +kernel
theorem dX12_step_74 : decode cX12_step 74 = .ok (.invokevirtual 400, 3) := by decide +kernel
theorem dX12_step_77 : decode cX12_step 77 = .ok (.ireturn, 1) := by decide +kernel
theorem dX12_step_78 : decode cX12_step 78 = .ok (.aload_n 0, 1) := by decide +kernel
theorem dX12_step_79 : decode cX12_step 79 = .ok (.bipush 6, 2) := by decide +kernel
theorem dX12_step_81 : decode cX12_step 81 = .ok (.iload_n 1, 1) := by decide +kernel
theorem dX12_step_82 : decode cX12_step 82 = .ok (.iadd, 1) := by decide +kernel
theorem dX12_step_83 : decode cX12_step 83 = .ok (.invokevirtual 320, 3) := by decide +kernel
theorem dX12_step_86 : decode cX12_step 86 = .ok (.ireturn, 1) := by decide +kernel
theorem dX12_step_87 : decode cX12_step 87 = .ok (.aload_n 0, 1) := by decide +kernel
theorem dX12_step_88 : decode cX12_step 88 = .ok (.getfield 13, 3) := by decide +kernel
theorem dX12_step_91 : decode cX12_step 91 = .ok (.bipush 6, 2) := by decide +kernel
theorem dX12_step_93 : decode cX12_step 93 = .ok (.iload_n 1, 1) := by decide +kernel
theorem dX12_step_94 : decode cX12_step 94 = .ok (.iadd, 1) := by decide +kernel
theorem dX12_step_95 : decode cX12_step 95 = .ok (.iaload, 1) := by decide +kernel
theorem dX12_step_96 : decode cX12_step 96 = .ok (.ireturn, 1) := by decide +kernel
theorem dX12_step_97 : decode cX12_step 97 = .ok (.aload_n 0, 1) := by decide +kernel
theorem dX12_step_98 : decode cX12_step 98 = .ok (.getfield 77, 3) := by decide +kernel
theorem dX12_step_101 : decode cX12_step 101 = .ok (.iload_n 1, 1) := by decide +kernel
theorem dX12_step_102 : decode cX12_step 102 = .ok (.iaload, 1) := by decide +kernel
theorem dX12_step_103 : decode cX12_step 103 = .ok (.ireturn, 1) := by decide +kernel
theorem dX12_step_104 : decode cX12_step 104 = .ok (.aload_n 0, 1) := by decide +kernel
theorem dX12_step_105 : decode cX12_step 105 = .ok (.iload_n 1, 1) := by decide +kernel
theorem dX12_step_106 : decode cX12_step 106 = .ok (.invokevirtual 403, 3) := by decide +kernel
theorem dX12_step_109 : decode cX12_step 109 = .ok (.ifCond .eq 7, 3) := by decide +kernel
theorem dX12_step_112 : decode cX12_step 112 = .ok (.iconst 1, 1) := by decide +kernel
theorem dX12_step_113 : decode cX12_step 113 = .ok (.goto 4, 3) := by decide +kernel
theorem dX12_step_116 : decode cX12_step 116 = .ok (.iconst 0, 1) := by decide +kernel
theorem dX12_step_117 : decode cX12_step 117 = .ok (.ireturn, 1) := by decide +kernel
theorem dX12_step_118 : decode cX12_step 118 = .ok (.aload_n 0, 1) := by decide +kernel
theorem dX12_step_119 : decode cX12_step 119 = .ok (.bipush 6, 2) := by decide +kernel
theorem dX12_step_121 : decode cX12_step 121 = .ok (.iload_n 3, 1) := by decide +kernel
theorem dX12_step_122 : decode cX12_step 122 = .ok (.iadd, 1) := by decide +kernel
theorem dX12_step_123 : decode cX12_step 123 = .ok (.bipush 6, 2) := by decide +kernel
theorem dX12_step_125 : decode cX12_step 125 = .ok (.iload_n 1, 1) := by decide +kernel
theorem dX12_step_126 : decode cX12_step 126 = .ok (.iadd, 1) := by decide +kernel
theorem dX12_step_127 : decode cX12_step 127 = .ok (.invokevirtual 351, 3) := by decide +kernel
theorem dX12_step_130 : decode cX12_step 130 = .ok (.ifCond .ne 9, 3) := by decide +kernel
theorem dX12_step_133 : decode cX12_step 133 = .ok (.iinc 3 1, 3) := by decide +kernel
theorem dX12_step_136 : decode cX12_step 136 = .ok (.goto (-18), 3) := by decide +kernel
theorem dX12_step_139 : decode cX12_step 139 = .ok (.iload_n 3, 1) := by decide +kernel
theorem dX12_step_140 : decode cX12_step 140 = .ok (.ireturn, 1) := by decide +kernel
theorem dX12_step_141 : decode cX12_step 141 = .ok (.iconst 0, 1) := by decide +kernel
theorem dX12_step_142 : decode cX12_step 142 = .ok (.istore 4, 2) := by decide +kernel
theorem dX12_step_144 : decode cX12_step 144 = .ok (.iload 4, 2) := by decide +kernel
theorem dX12_step_146 : decode cX12_step 146 = .ok (.aload_n 0, 1) := by decide +kernel
theorem dX12_step_147 : decode cX12_step 147 = .ok (.getfield 194, 3) := by decide +kernel
theorem dX12_step_150 : decode cX12_step 150 = .ok (.if_icmp .ge 27, 3) := by decide +kernel
theorem dX12_step_153 : decode cX12_step 153 = .ok (.iload_n 3, 1) := by decide +kernel
theorem dX12_step_154 : decode cX12_step 154 = .ok (.aload_n 0, 1) := by decide +kernel
theorem dX12_step_155 : decode cX12_step 155 = .ok (.iload 4, 2) := by decide +kernel
theorem dX12_step_157 : decode cX12_step 157 = .ok (.iload_n 1, 1) := by decide +kernel
theorem dX12_step_158 : decode cX12_step 158 = .ok (.invokevirtual 397, 3) := by decide +kernel
theorem dX12_step_161 : decode cX12_step 161 = .ok (.ifCond .eq 7, 3) := by decide +kernel
theorem dX12_step_164 : decode cX12_step 164 = .ok (.iconst 1, 1) := by decide +kernel
theorem dX12_step_165 : decode cX12_step 165 = .ok (.goto 4, 3) := by decide +kernel
theorem dX12_step_168 : decode cX12_step 168 = .ok (.iconst 0, 1) := by decide +kernel
theorem dX12_step_169 : decode cX12_step 169 = .ok (.iadd, 1) := by decide +kernel
theorem dX12_step_170 : decode cX12_step 170 = .ok (.istore_n 3, 1) := by decide +kernel
theorem dX12_step_171 : decode cX12_step 171 = .ok (.iinc 4 1, 3) := by decide +kernel
theorem dX12_step_174 : decode cX12_step 174 = .ok (.goto (-30), 3) := by decide +kernel
theorem dX12_step_177 : decode cX12_step 177 = .ok (.iload_n 3, 1) := by decide +kernel
theorem dX12_step_178 : decode cX12_step 178 = .ok (.ireturn, 1) := by decide +kernel
theorem dX12_step_179 : decode cX12_step 179 = .ok (.aload_n 0, 1) := by decide +kernel
theorem dX12_step_180 : decode cX12_step 180 = .ok (.iconst 1, 1) := by decide +kernel
theorem dX12_step_181 : decode cX12_step 181 = .ok (.invokevirtual 317, 3) := by decide +kernel
theorem dX12_step_184 : decode cX12_step 184 = .ok (.ireturn, 1) := by decide +kernel
theorem dX12_valueOfAtom_0 : decode cX12_valueOfAtom 0 = .ok (.aload_n 0, 1) := by decide +kernel
theorem dX12_valueOfAtom_1 : decode cX12_valueOfAtom 1 = .ok (.getfield 86, 3) := by decide +kernel
theorem dX12_valueOfAtom_4 : decode cX12_valueOfAtom 4 = .ok (.iload_n 1, 1) := by decide +kernel
theorem dX12_valueOfAtom_5 : decode cX12_valueOfAtom 5 = .ok (.iaload, 1) := by decide +kernel
theorem dX12_valueOfAtom_6 : decode cX12_valueOfAtom 6 = .ok (.istore 5, 2) := by decide +kernel
theorem dX12_valueOfAtom_8 : decode cX12_valueOfAtom 8 = .ok (.aload_n 0, 1) := by decide +kernel
theorem dX12_valueOfAtom_9 : decode cX12_valueOfAtom 9 = .ok (.getfield 83, 3) := by decide +kernel
theorem dX12_valueOfAtom_12 : decode cX12_valueOfAtom 12 = .ok (.iload_n 1, 1) := by decide +kernel
theorem dX12_valueOfAtom_13 : decode cX12_valueOfAtom 13 = .ok (.iaload, 1) := by decide +kernel
theorem dX12_valueOfAtom_14 : decode cX12_valueOfAtom 14 = .ok (.ifCond .ne 13, 3) := by decide +kernel
theorem dX12_valueOfAtom_17 : decode cX12_valueOfAtom 17 = .ok (.iload 5, 2) := by decide +kernel
theorem dX12_valueOfAtom_19 : decode cX12_valueOfAtom 19 = .ok (.aload_n 0, 1) := by decide +kernel
theorem dX12_valueOfAtom_20 : decode cX12_valueOfAtom 20 = .ok (.getfield 9, 3) := by decide +kernel
theorem dX12_valueOfAtom_23 : decode cX12_valueOfAtom 23 = .ok (.irem, 1) := by decide +kernel
theorem dX12_valueOfAtom_24 : decode cX12_valueOfAtom 24 = .ok (.goto 44, 3) := by decide +kernel
theorem dX12_valueOfAtom_27 : decode cX12_valueOfAtom 27 = .ok (.aload_n 0, 1) := by decide +kernel
theorem dX12_valueOfAtom_28 : decode cX12_valueOfAtom 28 = .ok (.getfield 83, 3) := by decide +kernel
theorem dX12_valueOfAtom_31 : decode cX12_valueOfAtom 31 = .ok (.iload_n 1, 1) := by decide +kernel
theorem dX12_valueOfAtom_32 : decode cX12_valueOfAtom 32 = .ok (.iaload, 1) := by decide +kernel
theorem dX12_valueOfAtom_33 : decode cX12_valueOfAtom 33 = .ok (.iconst 1, 1) := by decide +kernel
theorem dX12_valueOfAtom_34 : decode cX12_valueOfAtom 34 = .ok (.if_icmp .ne 27, 3) := by decide +kernel
theorem dX12_valueOfAtom_37 : decode cX12_valueOfAtom 37 = .ok (.iload 5, 2) := by decide +kernel
theorem dX12_valueOfAtom_39 : decode cX12_valueOfAtom 39 = .ok (.ifCond .ne 7, 3) := by decide +kernel
theorem dX12_valueOfAtom_42 : decode cX12_valueOfAtom 42 = .ok (.iload_n 2, 1) := by decide +kernel
theorem dX12_valueOfAtom_43 : decode cX12_valueOfAtom 43 = .ok (.goto 25, 3) := by decide +kernel
theorem dX12_valueOfAtom_46 : decode cX12_valueOfAtom 46 = .ok (.iload 5, 2) := by decide +kernel
theorem dX12_valueOfAtom_48 : decode cX12_valueOfAtom 48 = .ok (.iconst 1, 1) := by decide +kernel
theorem dX12_valueOfAtom_49 : decode cX12_valueOfAtom 49 = .ok (.if_icmp .ne 7, 3) := by decide +kernel
theorem dX12_valueOfAtom_52 : decode cX12_valueOfAtom 52 = .ok (.iload_n 3, 1) := by decide +kernel
theorem dX12_valueOfAtom_53 : decode cX12_valueOfAtom 53 = .ok (.goto 15, 3) := by decide +kernel
theorem dX12_valueOfAtom_56 : decode cX12_valueOfAtom 56 = .ok (.iload 4, 2) := by decide +kernel
theorem dX12_valueOfAtom_58 : decode cX12_valueOfAtom 58 = .ok (.goto 10, 3) := by decide +kernel
theorem dX12_valueOfAtom_61 : decode cX12_valueOfAtom 61 = .ok (.aload_n 0, 1) := by decide +kernel
theorem dX12_valueOfAtom_62 : decode cX12_valueOfAtom 62 = .ok (.getfield 104, 3) := by decide +kernel
theorem dX12_valueOfAtom_65 : decode cX12_valueOfAtom 65 = .ok (.iload 5, 2) := by decide +kernel
theorem dX12_valueOfAtom_67 : decode cX12_valueOfAtom 67 = .ok (.iaload, 1) := by decide +kernel
theorem dX12_valueOfAtom_68 : decode cX12_valueOfAtom 68 = .ok (.ireturn, 1) := by decide +kernel
theorem dX12_turnOfAtom_0 : decode cX12_turnOfAtom 0 = .ok (.aload_n 0, 1) := by decide +kernel
theorem dX12_turnOfAtom_1 : decode cX12_turnOfAtom 1 = .ok (.iload_n 1, 1) := by decide +kernel
theorem dX12_turnOfAtom_2 : decode cX12_turnOfAtom 2 = .ok (.invokevirtual 390, 3) := by decide +kernel
theorem dX12_turnOfAtom_5 : decode cX12_turnOfAtom 5 = .ok (.ifCond .eq 27, 3) := by decide +kernel
theorem dX12_turnOfAtom_8 : decode cX12_turnOfAtom 8 = .ok (.aload_n 0, 1) := by decide +kernel
theorem dX12_turnOfAtom_9 : decode cX12_turnOfAtom 9 = .ok (.getfield 86, 3) := by decide +kernel
theorem dX12_turnOfAtom_12 : decode cX12_turnOfAtom 12 = .ok (.iload_n 1, 1) := by decide +kernel
theorem dX12_turnOfAtom_13 : decode cX12_turnOfAtom 13 = .ok (.iaload, 1) := by decide +kernel
theorem dX12_turnOfAtom_14 : decode cX12_turnOfAtom 14 = .ok (.iload_n 2, 1) := by decide +kernel
theorem dX12_turnOfAtom_15 : decode cX12_turnOfAtom 15 = .ok (.if_icmp .lt 17, 3) := by decide +kernel
theorem dX12_turnOfAtom_18 : decode cX12_turnOfAtom 18 = .ok (.aload_n 0, 1) := by decide +kernel
theorem dX12_turnOfAtom_19 : decode cX12_turnOfAtom 19 = .ok (.getfield 107, 3) := by decide +kernel
theorem dX12_turnOfAtom_22 : decode cX12_turnOfAtom 22 = .ok (.aload_n 0, 1) := by decide +kernel
theorem dX12_turnOfAtom_23 : decode cX12_turnOfAtom 23 = .ok (.getfield 86, 3) := by decide +kernel
theorem dX12_turnOfAtom_26 : decode cX12_turnOfAtom 26 = .ok (.iload_n 1, 1) := by decide +kernel
theorem dX12_turnOfAtom_27 : decode cX12_turnOfAtom 27 = .ok (.iaload, 1) := by decide +kernel
theorem dX12_turnOfAtom_28 : decode cX12_turnOfAtom 28 = .ok (.iaload, 1) := by decide +kernel
theorem dX12_turnOfAtom_29 : decode cX12_turnOfAtom 29 = .ok (.goto 4, 3) := by decide +kernel
theorem dX12_turnOfAtom_32 : decode cX12_turnOfAtom 32 = .ok (.iconst 0, 1) := by decide +kernel
theorem dX12_turnOfAtom_33 : decode cX12_turnOfAtom 33 = .ok (.ireturn, 1) := by decide +kernel
theorem dX12_layStep_0 : decode cX12_layStep 0 = .ok (.aload_n 0, 1) := by decide +kernel
theorem dX12_layStep_1 : decode cX12_layStep 1 = .ok (.iconst 2, 1) := by decide +kernel
theorem dX12_layStep_2 : decode cX12_layStep 2 = .ok (.iload_n 1, 1) := by decide +kernel
theorem dX12_layStep_3 : decode cX12_layStep 3 = .ok (.imul, 1) := by decide +kernel
theorem dX12_layStep_4 : decode cX12_layStep 4 = .ok (.iload_n 3, 1) := by decide +kernel
theorem dX12_layStep_5 : decode cX12_layStep 5 = .ok (.iload 4, 2) := by decide +kernel
theorem dX12_layStep_7 : decode cX12_layStep 7 = .ok (.iload 5, 2) := by decide +kernel
theorem dX12_layStep_9 : decode cX12_layStep 9 = .ok (.invokevirtual 406, 3) := by decide +kernel
theorem dX12_layStep_12 : decode cX12_layStep 12 = .ok (.istore 6, 2) := by decide +kernel
theorem dX12_layStep_14 : decode cX12_layStep 14 = .ok (.aload_n 0, 1) := by decide +kernel
theorem dX12_layStep_15 : decode cX12_layStep 15 = .ok (.getfield 80, 3) := by decide +kernel
theorem dX12_layStep_18 : decode cX12_layStep 18 = .ok (.iload_n 1, 1) := by decide +kernel
theorem dX12_layStep_19 : decode cX12_layStep 19 = .ok (.iaload, 1) := by decide +kernel
theorem dX12_layStep_20 : decode cX12_layStep 20 = .ok (.ifCond .eq 18, 3) := by decide +kernel
theorem dX12_layStep_23 : decode cX12_layStep 23 = .ok (.aload_n 0, 1) := by decide +kernel
theorem dX12_layStep_24 : decode cX12_layStep 24 = .ok (.getfield 80, 3) := by decide +kernel
theorem dX12_layStep_27 : decode cX12_layStep 27 = .ok (.iload_n 1, 1) := by decide +kernel
theorem dX12_layStep_28 : decode cX12_layStep 28 = .ok (.iaload, 1) := by decide +kernel
theorem dX12_layStep_29 : decode cX12_layStep 29 = .ok (.bipush 94, 2) := by decide +kernel
theorem dX12_layStep_31 : decode cX12_layStep 31 = .ok (.if_icmp .eq 7, 3) := by decide +kernel
theorem dX12_layStep_34 : decode cX12_layStep 34 = .ok (.iconst 1, 1) := by decide +kernel
theorem dX12_layStep_35 : decode cX12_layStep 35 = .ok (.goto 4, 3) := by decide +kernel
theorem dX12_layStep_38 : decode cX12_layStep 38 = .ok (.iconst 0, 1) := by decide +kernel
theorem dX12_layStep_39 : decode cX12_layStep 39 = .ok (.istore 7, 2) := by decide +kernel
theorem dX12_layStep_41 : decode cX12_layStep 41 = .ok (.iload 7, 2) := by decide +kernel
theorem dX12_layStep_43 : decode cX12_layStep 43 = .ok (.ifCond .eq 20, 3) := by decide +kernel
theorem dX12_layStep_46 : decode cX12_layStep 46 = .ok (.aload_n 0, 1) := by decide +kernel
theorem dX12_layStep_47 : decode cX12_layStep 47 = .ok (.iconst 2, 1) := by decide +kernel
theorem dX12_layStep_48 : decode cX12_layStep 48 = .ok (.iload_n 1, 1) := by decide +kernel
theorem dX12_layStep_49 : decode cX12_layStep 49 = .ok (.imul, 1) := by decide +kernel
theorem dX12_layStep_50 : decode cX12_layStep 50 = .ok (.iconst 1, 1) := by decide +kernel
theorem dX12_layStep_51 : decode cX12_layStep 51 = .ok (.iadd, 1) := by decide +kernel
theorem dX12_layStep_52 : decode cX12_layStep 52 = .ok (.iload_n 3, 1) := by decide +kernel
theorem dX12_layStep_53 : decode cX12_layStep 53 = .ok (.iload 4, 2) := by decide +kernel
theorem dX12_layStep_55 : decode cX12_layStep 55 = .ok (.iload 5, 2) := by decide +kernel
theorem dX12_layStep_57 : decode cX12_layStep 57 = .ok (.invokevirtual 406, 3) := by decide +kernel
theorem dX12_layStep_60 : decode cX12_layStep 60 = .ok (.goto 4, 3) := by decide +kernel
theorem dX12_layStep_63 : decode cX12_layStep 63 = .ok (.iconst 0, 1) := by decide +kernel
theorem dX12_layStep_64 : decode cX12_layStep 64 = .ok (.istore 8, 2) := by decide +kernel
theorem dX12_layStep_66 : decode cX12_layStep 66 = .ok (.aload_n 0, 1) := by decide +kernel
theorem dX12_layStep_67 : decode cX12_layStep 67 = .ok (.iconst 2, 1) := by decide +kernel
theorem dX12_layStep_68 : decode cX12_layStep 68 = .ok (.iload_n 1, 1) := by decide +kernel
theorem dX12_layStep_69 : decode cX12_layStep 69 = .ok (.imul, 1) := by decide +kernel
theorem dX12_layStep_70 : decode cX12_layStep 70 = .ok (.iload_n 2, 1) := by decide +kernel
theorem dX12_layStep_71 : decode cX12_layStep 71 = .ok (.invokevirtual 409, 3) := by decide +kernel
theorem dX12_layStep_74 : decode cX12_layStep 74 = .ok (.istore 9, 2) := by decide +kernel
theorem dX12_layStep_76 : decode cX12_layStep 76 = .ok (.iload 7, 2) := by decide +kernel
theorem dX12_layStep_78 : decode cX12_layStep 78 = .ok (.ifCond .eq 16, 3) := by decide +kernel
theorem dX12_layStep_81 : decode cX12_layStep 81 = .ok (.aload_n 0, 1) := by decide +kernel
theorem dX12_layStep_82 : decode cX12_layStep 82 = .ok (.iconst 2, 1) := by decide +kernel
theorem dX12_layStep_83 : decode cX12_layStep 83 = .ok (.iload_n 1, 1) := by decide +kernel
theorem dX12_layStep_84 : decode cX12_layStep 84 = .ok (.imul, 1) := by decide +kernel
theorem dX12_layStep_85 : decode cX12_layStep 85 = .ok (.iconst 1, 1) := by decide +kernel
theorem dX12_layStep_86 : decode cX12_layStep 86 = .ok (.iadd, 1) := by decide +kernel
theorem dX12_layStep_87 : decode cX12_layStep 87 = .ok (.iload_n 2, 1) := by decide +kernel
theorem dX12_layStep_88 : decode cX12_layStep 88 = .ok (.invokevirtual 409, 3) := by decide +kernel
theorem dX12_layStep_91 : decode cX12_layStep 91 = .ok (.goto 4, 3) := by decide +kernel
theorem dX12_layStep_94 : decode cX12_layStep 94 = .ok (.iconst 0, 1) := by decide +kernel
theorem dX12_layStep_95 : decode cX12_layStep 95 = .ok (.istore 10, 2) := by decide +kernel
theorem dX12_layStep_97 : decode cX12_layStep 97 = .ok (.aload_n 0, 1) := by decide +kernel
theorem dX12_layStep_98 : decode cX12_layStep 98 = .ok (.getfield 86, 3) := by decide +kernel
theorem dX12_layStep_101 : decode cX12_layStep 101 = .ok (.iconst 2, 1) := by decide +kernel
theorem dX12_layStep_102 : decode cX12_layStep 102 = .ok (.iload_n 1, 1) := by decide +kernel
theorem dX12_layStep_103 : decode cX12_layStep 103 = .ok (.imul, 1) := by decide +kernel
theorem dX12_layStep_104 : decode cX12_layStep 104 = .ok (.iconst 1, 1) := by decide +kernel
theorem dX12_layStep_105 : decode cX12_layStep 105 = .ok (.iadd, 1) := by decide +kernel
theorem dX12_layStep_106 : decode cX12_layStep 106 = .ok (.iaload, 1) := by decide +kernel
theorem dX12_layStep_107 : decode cX12_layStep 107 = .ok (.istore 11, 2) := by decide +kernel
theorem dX12_layStep_109 : decode cX12_layStep 109 = .ok (.aload_n 0, 1) := by decide +kernel
theorem dX12_layStep_110 : decode cX12_layStep 110 = .ok (.getfield 80, 3) := by decide +kernel
theorem dX12_layStep_113 : decode cX12_layStep 113 = .ok (.iload_n 1, 1) := by decide +kernel
theorem dX12_layStep_114 : decode cX12_layStep 114 = .ok (.iaload, 1) := by decide +kernel
theorem dX12_layStep_115 : decode cX12_layStep 115 = .ok (.lookupswitch 199 #[(42, 107), (43, 41), (45, 74), (94, 147)], 41) := by decide +kernel
theorem dX12_layStep_156 : decode cX12_layStep 156 = .ok (.aload_n 0, 1) := by decide +kernel
theorem dX12_layStep_157 : decode cX12_layStep 157 = .ok (.getfield 104, 3) := by decide +kernel
theorem dX12_layStep_160 : decode cX12_layStep 160 = .ok (.iload_n 1, 1) := by decide +kernel
theorem dX12_layStep_161 : decode cX12_layStep 161 = .ok (.aload_n 0, 1) := by decide +kernel
theorem dX12_layStep_162 : decode cX12_layStep 162 = .ok (.iload 6, 2) := by decide +kernel
theorem dX12_layStep_164 : decode cX12_layStep 164 = .ok (.iload 8, 2) := by decide +kernel
theorem dX12_layStep_166 : decode cX12_layStep 166 = .ok (.iadd, 1) := by decide +kernel
theorem dX12_layStep_167 : decode cX12_layStep 167 = .ok (.invokevirtual 138, 3) := by decide +kernel
theorem dX12_layStep_170 : decode cX12_layStep 170 = .ok (.iastore, 1) := by decide +kernel
theorem dX12_layStep_171 : decode cX12_layStep 171 = .ok (.aload_n 0, 1) := by decide +kernel
theorem dX12_layStep_172 : decode cX12_layStep 172 = .ok (.getfield 107, 3) := by decide +kernel
theorem dX12_layStep_175 : decode cX12_layStep 175 = .ok (.iload_n 1, 1) := by decide +kernel
theorem dX12_layStep_176 : decode cX12_layStep 176 = .ok (.aload_n 0, 1) := by decide +kernel
theorem dX12_layStep_177 : decode cX12_layStep 177 = .ok (.iload 9, 2) := by decide +kernel
theorem dX12_layStep_179 : decode cX12_layStep 179 = .ok (.iload 10, 2) := by decide +kernel
theorem dX12_layStep_181 : decode cX12_layStep 181 = .ok (.iadd, 1) := by decide +kernel
theorem dX12_layStep_182 : decode cX12_layStep 182 = .ok (.invokevirtual 138, 3) := by decide +kernel
theorem dX12_layStep_185 : decode cX12_layStep 185 = .ok (.iastore, 1) := by decide +kernel
theorem dX12_layStep_186 : decode cX12_layStep 186 = .ok (.goto 144, 3) := by decide +kernel
theorem dX12_layStep_189 : decode cX12_layStep 189 = .ok (.aload_n 0, 1) := by decide +kernel
theorem dX12_layStep_190 : decode cX12_layStep 190 = .ok (.getfield 104, 3) := by decide +kernel
theorem dX12_layStep_193 : decode cX12_layStep 193 = .ok (.iload_n 1, 1) := by decide +kernel
theorem dX12_layStep_194 : decode cX12_layStep 194 = .ok (.aload_n 0, 1) := by decide +kernel
theorem dX12_layStep_195 : decode cX12_layStep 195 = .ok (.iload 6, 2) := by decide +kernel
theorem dX12_layStep_197 : decode cX12_layStep 197 = .ok (.iload 8, 2) := by decide +kernel
theorem dX12_layStep_199 : decode cX12_layStep 199 = .ok (.isub, 1) := by decide +kernel
theorem dX12_layStep_200 : decode cX12_layStep 200 = .ok (.invokevirtual 138, 3) := by decide +kernel
theorem dX12_layStep_203 : decode cX12_layStep 203 = .ok (.iastore, 1) := by decide +kernel
theorem dX12_layStep_204 : decode cX12_layStep 204 = .ok (.aload_n 0, 1) := by decide +kernel
theorem dX12_layStep_205 : decode cX12_layStep 205 = .ok (.getfield 107, 3) := by decide +kernel
theorem dX12_layStep_208 : decode cX12_layStep 208 = .ok (.iload_n 1, 1) := by decide +kernel
theorem dX12_layStep_209 : decode cX12_layStep 209 = .ok (.aload_n 0, 1) := by decide +kernel
theorem dX12_layStep_210 : decode cX12_layStep 210 = .ok (.iload 9, 2) := by decide +kernel
theorem dX12_layStep_212 : decode cX12_layStep 212 = .ok (.iload 10, 2) := by decide +kernel
theorem dX12_layStep_214 : decode cX12_layStep 214 = .ok (.isub, 1) := by decide +kernel
theorem dX12_layStep_215 : decode cX12_layStep 215 = .ok (.invokevirtual 138, 3) := by decide +kernel
theorem dX12_layStep_218 : decode cX12_layStep 218 = .ok (.iastore, 1) := by decide +kernel
theorem dX12_layStep_219 : decode cX12_layStep 219 = .ok (.goto 111, 3) := by decide +kernel
theorem dX12_layStep_222 : decode cX12_layStep 222 = .ok (.aload_n 0, 1) := by decide +kernel
theorem dX12_layStep_223 : decode cX12_layStep 223 = .ok (.getfield 104, 3) := by decide +kernel
theorem dX12_layStep_226 : decode cX12_layStep 226 = .ok (.iload_n 1, 1) := by decide +kernel
theorem dX12_layStep_227 : decode cX12_layStep 227 = .ok (.iload 6, 2) := by decide +kernel
theorem dX12_layStep_229 : decode cX12_layStep 229 = .ok (.iload 8, 2) := by decide +kernel
theorem dX12_layStep_231 : decode cX12_layStep 231 = .ok (.imul, 1) := by decide +kernel
theorem dX12_layStep_232 : decode cX12_layStep 232 = .ok (.aload_n 0, 1) := by decide +kernel
theorem dX12_layStep_233 : decode cX12_layStep 233 = .ok (.getfield 9, 3) := by decide +kernel
theorem dX12_layStep_236 : decode cX12_layStep 236 = .ok (.irem, 1) := by decide +kernel
theorem dX12_layStep_237 : decode cX12_layStep 237 = .ok (.iastore, 1) := by decide +kernel
theorem dX12_layStep_238 : decode cX12_layStep 238 = .ok (.aload_n 0, 1) := by decide +kernel
theorem dX12_layStep_239 : decode cX12_layStep 239 = .ok (.getfield 107, 3) := by decide +kernel
theorem dX12_layStep_242 : decode cX12_layStep 242 = .ok (.iload_n 1, 1) := by decide +kernel
theorem dX12_layStep_243 : decode cX12_layStep 243 = .ok (.aload_n 0, 1) := by decide +kernel
theorem dX12_layStep_244 : decode cX12_layStep 244 = .ok (.iload 9, 2) := by decide +kernel
theorem dX12_layStep_246 : decode cX12_layStep 246 = .ok (.iload 8, 2) := by decide +kernel
theorem dX12_layStep_248 : decode cX12_layStep 248 = .ok (.imul, 1) := by decide +kernel
theorem dX12_layStep_249 : decode cX12_layStep 249 = .ok (.iload 6, 2) := by decide +kernel
theorem dX12_layStep_251 : decode cX12_layStep 251 = .ok (.iload 10, 2) := by decide +kernel
theorem dX12_layStep_253 : decode cX12_layStep 253 = .ok (.imul, 1) := by decide +kernel
theorem dX12_layStep_254 : decode cX12_layStep 254 = .ok (.iadd, 1) := by decide +kernel
theorem dX12_layStep_255 : decode cX12_layStep 255 = .ok (.invokevirtual 138, 3) := by decide +kernel
theorem dX12_layStep_258 : decode cX12_layStep 258 = .ok (.iastore, 1) := by decide +kernel
theorem dX12_layStep_259 : decode cX12_layStep 259 = .ok (.goto 71, 3) := by decide +kernel
theorem dX12_layStep_262 : decode cX12_layStep 262 = .ok (.aload_n 0, 1) := by decide +kernel
theorem dX12_layStep_263 : decode cX12_layStep 263 = .ok (.getfield 104, 3) := by decide +kernel
theorem dX12_layStep_266 : decode cX12_layStep 266 = .ok (.iload_n 1, 1) := by decide +kernel
theorem dX12_layStep_267 : decode cX12_layStep 267 = .ok (.aload_n 0, 1) := by decide +kernel
theorem dX12_layStep_268 : decode cX12_layStep 268 = .ok (.iload 6, 2) := by decide +kernel
theorem dX12_layStep_270 : decode cX12_layStep 270 = .ok (.iload 11, 2) := by decide +kernel
theorem dX12_layStep_272 : decode cX12_layStep 272 = .ok (.invokevirtual 314, 3) := by decide +kernel
theorem dX12_layStep_275 : decode cX12_layStep 275 = .ok (.iastore, 1) := by decide +kernel
theorem dX12_layStep_276 : decode cX12_layStep 276 = .ok (.aload_n 0, 1) := by decide +kernel
theorem dX12_layStep_277 : decode cX12_layStep 277 = .ok (.getfield 107, 3) := by decide +kernel
theorem dX12_layStep_280 : decode cX12_layStep 280 = .ok (.iload_n 1, 1) := by decide +kernel
theorem dX12_layStep_281 : decode cX12_layStep 281 = .ok (.iload 11, 2) := by decide +kernel
theorem dX12_layStep_283 : decode cX12_layStep 283 = .ok (.ifCond .ne 7, 3) := by decide +kernel
theorem dX12_layStep_286 : decode cX12_layStep 286 = .ok (.iconst 0, 1) := by decide +kernel
theorem dX12_layStep_287 : decode cX12_layStep 287 = .ok (.goto 23, 3) := by decide +kernel
theorem dX12_layStep_290 : decode cX12_layStep 290 = .ok (.aload_n 0, 1) := by decide +kernel
theorem dX12_layStep_291 : decode cX12_layStep 291 = .ok (.iload 11, 2) := by decide +kernel
theorem dX12_layStep_293 : decode cX12_layStep 293 = .ok (.aload_n 0, 1) := by decide +kernel
theorem dX12_layStep_294 : decode cX12_layStep 294 = .ok (.iload 6, 2) := by decide +kernel
theorem dX12_layStep_296 : decode cX12_layStep 296 = .ok (.iload 11, 2) := by decide +kernel
theorem dX12_layStep_298 : decode cX12_layStep 298 = .ok (.iconst 1, 1) := by decide +kernel
theorem dX12_layStep_299 : decode cX12_layStep 299 = .ok (.isub, 1) := by decide +kernel
theorem dX12_layStep_300 : decode cX12_layStep 300 = .ok (.invokevirtual 314, 3) := by decide +kernel
theorem dX12_layStep_303 : decode cX12_layStep 303 = .ok (.imul, 1) := by decide +kernel
theorem dX12_layStep_304 : decode cX12_layStep 304 = .ok (.iload 9, 2) := by decide +kernel
theorem dX12_layStep_306 : decode cX12_layStep 306 = .ok (.imul, 1) := by decide +kernel
theorem dX12_layStep_307 : decode cX12_layStep 307 = .ok (.invokevirtual 138, 3) := by decide +kernel
theorem dX12_layStep_310 : decode cX12_layStep 310 = .ok (.iastore, 1) := by decide +kernel
theorem dX12_layStep_311 : decode cX12_layStep 311 = .ok (.goto 19, 3) := by decide +kernel
theorem dX12_layStep_314 : decode cX12_layStep 314 = .ok (.aload_n 0, 1) := by decide +kernel
theorem dX12_layStep_315 : decode cX12_layStep 315 = .ok (.getfield 104, 3) := by decide +kernel
theorem dX12_layStep_318 : decode cX12_layStep 318 = .ok (.iload_n 1, 1) := by decide +kernel
theorem dX12_layStep_319 : decode cX12_layStep 319 = .ok (.iload 6, 2) := by decide +kernel
theorem dX12_layStep_321 : decode cX12_layStep 321 = .ok (.iastore, 1) := by decide +kernel
theorem dX12_layStep_322 : decode cX12_layStep 322 = .ok (.aload_n 0, 1) := by decide +kernel
theorem dX12_layStep_323 : decode cX12_layStep 323 = .ok (.getfield 107, 3) := by decide +kernel
theorem dX12_layStep_326 : decode cX12_layStep 326 = .ok (.iload_n 1, 1) := by decide +kernel
theorem dX12_layStep_327 : decode cX12_layStep 327 = .ok (.iload 9, 2) := by decide +kernel
theorem dX12_layStep_329 : decode cX12_layStep 329 = .ok (.iastore, 1) := by decide +kernel
theorem dX12_layStep_330 : decode cX12_layStep 330 = .ok (.iload_n 1, 1) := by decide +kernel
theorem dX12_layStep_331 : decode cX12_layStep 331 = .ok (.iload_n 2, 1) := by decide +kernel
theorem dX12_layStep_332 : decode cX12_layStep 332 = .ok (.if_icmp .ne 10, 3) := by decide +kernel
theorem dX12_layStep_335 : decode cX12_layStep 335 = .ok (.aload_n 0, 1) := by decide +kernel
theorem dX12_layStep_336 : decode cX12_layStep 336 = .ok (.getfield 107, 3) := by decide +kernel
theorem dX12_layStep_339 : decode cX12_layStep 339 = .ok (.iload_n 1, 1) := by decide +kernel
theorem dX12_layStep_340 : decode cX12_layStep 340 = .ok (.iconst 1, 1) := by decide +kernel
theorem dX12_layStep_341 : decode cX12_layStep 341 = .ok (.iastore, 1) := by decide +kernel
theorem dX12_layStep_342 : decode cX12_layStep 342 = .ok (.iload_n 1, 1) := by decide +kernel
theorem dX12_layStep_343 : decode cX12_layStep 343 = .ok (.iload_n 2, 1) := by decide +kernel
theorem dX12_layStep_344 : decode cX12_layStep 344 = .ok (.if_icmp .ge 10, 3) := by decide +kernel
theorem dX12_layStep_347 : decode cX12_layStep 347 = .ok (.aload_n 0, 1) := by decide +kernel
theorem dX12_layStep_348 : decode cX12_layStep 348 = .ok (.getfield 107, 3) := by decide +kernel
theorem dX12_layStep_351 : decode cX12_layStep 351 = .ok (.iload_n 1, 1) := by decide +kernel
theorem dX12_layStep_352 : decode cX12_layStep 352 = .ok (.iconst 0, 1) := by decide +kernel
theorem dX12_layStep_353 : decode cX12_layStep 353 = .ok (.iastore, 1) := by decide +kernel
theorem dX12_layStep_354 : decode cX12_layStep 354 = .ok (.return_, 1) := by decide +kernel
theorem dX12_at_0 : decode cX12_at 0 = .ok (.aload_n 0, 1) := by decide +kernel
theorem dX12_at_1 : decode cX12_at 1 = .ok (.iload_n 1, 1) := by decide +kernel
theorem dX12_at_2 : decode cX12_at 2 = .ok (.iconst 0, 1) := by decide +kernel
theorem dX12_at_3 : decode cX12_at 3 = .ok (.aload_n 0, 1) := by decide +kernel
theorem dX12_at_4 : decode cX12_at 4 = .ok (.getfield 194, 3) := by decide +kernel
theorem dX12_at_7 : decode cX12_at 7 = .ok (.iconst 1, 1) := by decide +kernel
theorem dX12_at_8 : decode cX12_at 8 = .ok (.isub, 1) := by decide +kernel
theorem dX12_at_9 : decode cX12_at 9 = .ok (.invokestatic 181, 3) := by decide +kernel
theorem dX12_at_12 : decode cX12_at 12 = .ok (.ifCond .ne 7, 3) := by decide +kernel
theorem dX12_at_15 : decode cX12_at 15 = .ok (.iconst 1, 1) := by decide +kernel
theorem dX12_at_16 : decode cX12_at 16 = .ok (.goto 20, 3) := by decide +kernel
theorem dX12_at_19 : decode cX12_at 19 = .ok (.aload_n 0, 1) := by decide +kernel
theorem dX12_at_20 : decode cX12_at 20 = .ok (.iload_n 3, 1) := by decide +kernel
theorem dX12_at_21 : decode cX12_at 21 = .ok (.iload 4, 2) := by decide +kernel
theorem dX12_at_23 : decode cX12_at 23 = .ok (.iload 5, 2) := by decide +kernel
theorem dX12_at_25 : decode cX12_at 25 = .ok (.invokevirtual 345, 3) := by decide +kernel
theorem dX12_at_28 : decode cX12_at 28 = .ok (.ifCond .ne 7, 3) := by decide +kernel
theorem dX12_at_31 : decode cX12_at 31 = .ok (.iconst 2, 1) := by decide +kernel
theorem dX12_at_32 : decode cX12_at 32 = .ok (.goto 4, 3) := by decide +kernel
theorem dX12_at_35 : decode cX12_at 35 = .ok (.iconst 0, 1) := by decide +kernel
theorem dX12_at_36 : decode cX12_at 36 = .ok (.putfield 116, 3) := by decide +kernel
theorem dX12_at_39 : decode cX12_at 39 = .ok (.aload_n 0, 1) := by decide +kernel
theorem dX12_at_40 : decode cX12_at 40 = .ok (.getfield 116, 3) := by decide +kernel
theorem dX12_at_43 : decode cX12_at 43 = .ok (.ifCond .le 5, 3) := by decide +kernel
theorem dX12_at_46 : decode cX12_at 46 = .ok (.iconst 0, 1) := by decide +kernel
theorem dX12_at_47 : decode cX12_at 47 = .ok (.ireturn, 1) := by decide +kernel
theorem dX12_at_48 : decode cX12_at 48 = .ok (.iconst 0, 1) := by decide +kernel
theorem dX12_at_49 : decode cX12_at 49 = .ok (.istore 6, 2) := by decide +kernel
theorem dX12_at_51 : decode cX12_at 51 = .ok (.iload 6, 2) := by decide +kernel
theorem dX12_at_53 : decode cX12_at 53 = .ok (.aload_n 0, 1) := by decide +kernel
theorem dX12_at_54 : decode cX12_at 54 = .ok (.getfield 194, 3) := by decide +kernel
theorem dX12_at_57 : decode cX12_at 57 = .ok (.if_icmp .ge 21, 3) := by decide +kernel
theorem dX12_at_60 : decode cX12_at 60 = .ok (.aload_n 0, 1) := by decide +kernel
theorem dX12_at_61 : decode cX12_at 61 = .ok (.iload 6, 2) := by decide +kernel
theorem dX12_at_63 : decode cX12_at 63 = .ok (.iload_n 1, 1) := by decide +kernel
theorem dX12_at_64 : decode cX12_at 64 = .ok (.iload_n 3, 1) := by decide +kernel
theorem dX12_at_65 : decode cX12_at 65 = .ok (.iload 4, 2) := by decide +kernel
theorem dX12_at_67 : decode cX12_at 67 = .ok (.iload 5, 2) := by decide +kernel
theorem dX12_at_69 : decode cX12_at 69 = .ok (.invokevirtual 412, 3) := by decide +kernel
theorem dX12_at_72 : decode cX12_at 72 = .ok (.iinc 6 1, 3) := by decide +kernel
theorem dX12_at_75 : decode cX12_at 75 = .ok (.goto (-24), 3) := by decide +kernel
theorem dX12_at_78 : decode cX12_at 78 = .ok (.iload_n 2, 1) := by decide +kernel
theorem dX12_at_79 : decode cX12_at 79 = .ok (.ifCond .eq 17, 3) := by decide +kernel
theorem dX12_at_82 : decode cX12_at 82 = .ok (.aload_n 0, 1) := by decide +kernel
theorem dX12_at_83 : decode cX12_at 83 = .ok (.getfield 107, 3) := by decide +kernel
theorem dX12_at_86 : decode cX12_at 86 = .ok (.aload_n 0, 1) := by decide +kernel
theorem dX12_at_87 : decode cX12_at 87 = .ok (.getfield 194, 3) := by decide +kernel
theorem dX12_at_90 : decode cX12_at 90 = .ok (.iconst 1, 1) := by decide +kernel
theorem dX12_at_91 : decode cX12_at 91 = .ok (.isub, 1) := by decide +kernel
theorem dX12_at_92 : decode cX12_at 92 = .ok (.iaload, 1) := by decide +kernel
theorem dX12_at_93 : decode cX12_at 93 = .ok (.goto 9, 3) := by decide +kernel
theorem dX12_at_96 : decode cX12_at 96 = .ok (.aload_n 0, 1) := by decide +kernel
theorem dX12_at_97 : decode cX12_at 97 = .ok (.getfield 104, 3) := by decide +kernel
theorem dX12_at_100 : decode cX12_at 100 = .ok (.iload_n 1, 1) := by decide +kernel
theorem dX12_at_101 : decode cX12_at 101 = .ok (.iaload, 1) := by decide +kernel
theorem dX12_at_102 : decode cX12_at 102 = .ok (.ireturn, 1) := by decide +kernel
theorem dX12_feed_0 : decode cX12_feed 0 = .ok (.aload_n 0, 1) := by decide +kernel
theorem dX12_feed_1 : decode cX12_feed 1 = .ok (.iconst 0, 1) := by decide +kernel
theorem dX12_feed_2 : decode cX12_feed 2 = .ok (.putfield 116, 3) := by decide +kernel
theorem dX12_feed_5 : decode cX12_feed 5 = .ok (.aload_n 0, 1) := by decide +kernel
theorem dX12_feed_6 : decode cX12_feed 6 = .ok (.getfield 311, 3) := by decide +kernel
theorem dX12_feed_9 : decode cX12_feed 9 = .ok (.bipush 20, 2) := by decide +kernel
theorem dX12_feed_11 : decode cX12_feed 11 = .ok (.iadd, 1) := by decide +kernel
theorem dX12_feed_12 : decode cX12_feed 12 = .ok (.sipush 200, 3) := by decide +kernel
theorem dX12_feed_15 : decode cX12_feed 15 = .ok (.if_icmp .le 5, 3) := by decide +kernel
theorem dX12_feed_18 : decode cX12_feed 18 = .ok (.iconst (-1), 1) := by decide +kernel
theorem dX12_feed_19 : decode cX12_feed 19 = .ok (.ireturn, 1) := by decide +kernel
theorem dX12_feed_20 : decode cX12_feed 20 = .ok (.iconst 0, 1) := by decide +kernel
theorem dX12_feed_21 : decode cX12_feed 21 = .ok (.istore 6, 2) := by decide +kernel
theorem dX12_feed_23 : decode cX12_feed 23 = .ok (.iload 6, 2) := by decide +kernel
theorem dX12_feed_25 : decode cX12_feed 25 = .ok (.bipush 20, 2) := by decide +kernel
theorem dX12_feed_27 : decode cX12_feed 27 = .ok (.if_icmp .ge 93, 3) := by decide +kernel
theorem dX12_feed_30 : decode cX12_feed 30 = .ok (.iload 6, 2) := by decide +kernel
theorem dX12_feed_32 : decode cX12_feed 32 = .ok (.iconst 4, 1) := by decide +kernel
theorem dX12_feed_33 : decode cX12_feed 33 = .ok (.if_icmp .ge 7, 3) := by decide +kernel
theorem dX12_feed_36 : decode cX12_feed 36 = .ok (.iload_n 1, 1) := by decide +kernel
theorem dX12_feed_37 : decode cX12_feed 37 = .ok (.goto 39, 3) := by decide +kernel
theorem dX12_feed_40 : decode cX12_feed 40 = .ok (.iload 6, 2) := by decide +kernel
theorem dX12_feed_42 : decode cX12_feed 42 = .ok (.bipush 8, 2) := by decide +kernel
theorem dX12_feed_44 : decode cX12_feed 44 = .ok (.if_icmp .ge 7, 3) := by decide +kernel
theorem dX12_feed_47 : decode cX12_feed 47 = .ok (.iload_n 2, 1) := by decide +kernel
theorem dX12_feed_48 : decode cX12_feed 48 = .ok (.goto 28, 3) := by decide +kernel
theorem dX12_feed_51 : decode cX12_feed 51 = .ok (.iload 6, 2) := by decide +kernel
theorem dX12_feed_53 : decode cX12_feed 53 = .ok (.bipush 12, 2) := by decide +kernel
theorem dX12_feed_55 : decode cX12_feed 55 = .ok (.if_icmp .ge 7, 3) := by decide +kernel
theorem dX12_feed_58 : decode cX12_feed 58 = .ok (.iload_n 3, 1) := by decide +kernel
theorem dX12_feed_59 : decode cX12_feed 59 = .ok (.goto 17, 3) := by decide +kernel
theorem dX12_feed_62 : decode cX12_feed 62 = .ok (.iload 6, 2) := by decide +kernel
theorem dX12_feed_64 : decode cX12_feed 64 = .ok (.bipush 16, 2) := by decide +kernel
theorem dX12_feed_66 : decode cX12_feed 66 = .ok (.if_icmp .ge 8, 3) := by decide +kernel
theorem dX12_feed_69 : decode cX12_feed 69 = .ok (.iload 4, 2) := by decide +kernel
theorem dX12_feed_71 : decode cX12_feed 71 = .ok (.goto 5, 3) := by decide +kernel
theorem dX12_feed_74 : decode cX12_feed 74 = .ok (.iload 5, 2) := by decide +kernel
theorem dX12_feed_76 : decode cX12_feed 76 = .ok (.istore 7, 2) := by decide +kernel
theorem dX12_feed_78 : decode cX12_feed 78 = .ok (.aload_n 0, 1) := by decide +kernel
theorem dX12_feed_79 : decode cX12_feed 79 = .ok (.getfield 110, 3) := by decide +kernel
theorem dX12_feed_82 : decode cX12_feed 82 = .ok (.aload_n 0, 1) := by decide +kernel
theorem dX12_feed_83 : decode cX12_feed 83 = .ok (.getfield 311, 3) := by decide +kernel
theorem dX12_feed_86 : decode cX12_feed 86 = .ok (.iload 7, 2) := by decide +kernel
theorem dX12_feed_88 : decode cX12_feed 88 = .ok (.bipush 24, 2) := by decide +kernel
theorem dX12_feed_90 : decode cX12_feed 90 = .ok (.bipush 8, 2) := by decide +kernel
theorem dX12_feed_92 : decode cX12_feed 92 = .ok (.iload 6, 2) := by decide +kernel
theorem dX12_feed_94 : decode cX12_feed 94 = .ok (.iconst 4, 1) := by decide +kernel
theorem dX12_feed_95 : decode cX12_feed 95 = .ok (.irem, 1) := by decide +kernel
theorem dX12_feed_96 : decode cX12_feed 96 = .ok (.imul, 1) := by decide +kernel
theorem dX12_feed_97 : decode cX12_feed 97 = .ok (.isub, 1) := by decide +kernel
theorem dX12_feed_98 : decode cX12_feed 98 = .ok (.ishr, 1) := by decide +kernel
theorem dX12_feed_99 : decode cX12_feed 99 = .ok (.sipush 255, 3) := by decide +kernel
theorem dX12_feed_102 : decode cX12_feed 102 = .ok (.iand, 1) := by decide +kernel
theorem dX12_feed_103 : decode cX12_feed 103 = .ok (.iastore, 1) := by decide +kernel
theorem dX12_feed_104 : decode cX12_feed 104 = .ok (.aload_n 0, 1) := by decide +kernel
theorem dX12_feed_105 : decode cX12_feed 105 = .ok (.dup, 1) := by decide +kernel
theorem dX12_feed_106 : decode cX12_feed 106 = .ok (.getfield 311, 3) := by decide +kernel
theorem dX12_feed_109 : decode cX12_feed 109 = .ok (.iconst 1, 1) := by decide +kernel
theorem dX12_feed_110 : decode cX12_feed 110 = .ok (.iadd, 1) := by decide +kernel
theorem dX12_feed_111 : decode cX12_feed 111 = .ok (.putfield 311, 3) := by decide +kernel
theorem dX12_feed_114 : decode cX12_feed 114 = .ok (.iinc 6 1, 3) := by decide +kernel
theorem dX12_feed_117 : decode cX12_feed 117 = .ok (.goto (-94), 3) := by decide +kernel
theorem dX12_feed_120 : decode cX12_feed 120 = .ok (.aload_n 0, 1) := by decide +kernel
theorem dX12_feed_121 : decode cX12_feed 121 = .ok (.getfield 311, 3) := by decide +kernel
theorem dX12_feed_124 : decode cX12_feed 124 = .ok (.ireturn, 1) := by decide +kernel
theorem dX12_fault_0 : decode cX12_fault 0 = .ok (.aload_n 0, 1) := by decide +kernel
theorem dX12_fault_1 : decode cX12_fault 1 = .ok (.iconst 0, 1) := by decide +kernel
theorem dX12_fault_2 : decode cX12_fault 2 = .ok (.putfield 116, 3) := by decide +kernel
theorem dX12_fault_5 : decode cX12_fault 5 = .ok (.aload_n 0, 1) := by decide +kernel
theorem dX12_fault_6 : decode cX12_fault 6 = .ok (.getfield 113, 3) := by decide +kernel
theorem dX12_fault_9 : decode cX12_fault 9 = .ok (.ireturn, 1) := by decide +kernel
theorem dX12_byteAt_0 : decode cX12_byteAt 0 = .ok (.iload_n 1, 1) := by decide +kernel
theorem dX12_byteAt_1 : decode cX12_byteAt 1 = .ok (.aload_n 0, 1) := by decide +kernel
theorem dX12_byteAt_2 : decode cX12_byteAt 2 = .ok (.getfield 416, 3) := by decide +kernel
theorem dX12_byteAt_5 : decode cX12_byteAt 5 = .ok (.if_icmp .ge 12, 3) := by decide +kernel
theorem dX12_byteAt_8 : decode cX12_byteAt 8 = .ok (.aload_n 0, 1) := by decide +kernel
theorem dX12_byteAt_9 : decode cX12_byteAt 9 = .ok (.getfield 110, 3) := by decide +kernel
theorem dX12_byteAt_12 : decode cX12_byteAt 12 = .ok (.iload_n 1, 1) := by decide +kernel
theorem dX12_byteAt_13 : decode cX12_byteAt 13 = .ok (.iaload, 1) := by decide +kernel
theorem dX12_byteAt_14 : decode cX12_byteAt 14 = .ok (.goto 4, 3) := by decide +kernel
theorem dX12_byteAt_17 : decode cX12_byteAt 17 = .ok (.iconst (-1), 1) := by decide +kernel
theorem dX12_byteAt_18 : decode cX12_byteAt 18 = .ok (.ireturn, 1) := by decide +kernel
theorem dX12_isFigure_0 : decode cX12_isFigure 0 = .ok (.iload_n 0, 1) := by decide +kernel
theorem dX12_isFigure_1 : decode cX12_isFigure 1 = .ok (.bipush 48, 2) := by decide +kernel
theorem dX12_isFigure_3 : decode cX12_isFigure 3 = .ok (.if_icmp .lt 13, 3) := by decide +kernel
theorem dX12_isFigure_6 : decode cX12_isFigure 6 = .ok (.iload_n 0, 1) := by decide +kernel
theorem dX12_isFigure_7 : decode cX12_isFigure 7 = .ok (.bipush 57, 2) := by decide +kernel
theorem dX12_isFigure_9 : decode cX12_isFigure 9 = .ok (.if_icmp .gt 7, 3) := by decide +kernel
theorem dX12_isFigure_12 : decode cX12_isFigure 12 = .ok (.iconst 1, 1) := by decide +kernel
theorem dX12_isFigure_13 : decode cX12_isFigure 13 = .ok (.goto 4, 3) := by decide +kernel
theorem dX12_isFigure_16 : decode cX12_isFigure 16 = .ok (.iconst 0, 1) := by decide +kernel
theorem dX12_isFigure_17 : decode cX12_isFigure 17 = .ok (.ireturn, 1) := by decide +kernel
theorem dX12_next_0 : decode cX12_next 0 = .ok (.aload_n 0, 1) := by decide +kernel
theorem dX12_next_1 : decode cX12_next 1 = .ok (.aload_n 0, 1) := by decide +kernel
theorem dX12_next_2 : decode cX12_next 2 = .ok (.getfield 419, 3) := by decide +kernel
theorem dX12_next_5 : decode cX12_next 5 = .ok (.invokevirtual 422, 3) := by decide +kernel
theorem dX12_next_8 : decode cX12_next 8 = .ok (.bipush 32, 2) := by decide +kernel
theorem dX12_next_10 : decode cX12_next 10 = .ok (.if_icmp .eq 16, 3) := by decide +kernel
theorem dX12_next_13 : decode cX12_next 13 = .ok (.aload_n 0, 1) := by decide +kernel
theorem dX12_next_14 : decode cX12_next 14 = .ok (.aload_n 0, 1) := by decide +kernel
theorem dX12_next_15 : decode cX12_next 15 = .ok (.getfield 419, 3) := by decide +kernel
theorem dX12_next_18 : decode cX12_next 18 = .ok (.invokevirtual 422, 3) := by decide +kernel
theorem dX12_next_21 : decode cX12_next 21 = .ok (.bipush 10, 2) := by decide +kernel
theorem dX12_next_23 : decode cX12_next 23 = .ok (.if_icmp .ne 16, 3) := by decide +kernel
theorem dX12_next_26 : decode cX12_next 26 = .ok (.aload_n 0, 1) := by decide +kernel
theorem dX12_next_27 : decode cX12_next 27 = .ok (.dup, 1) := by decide +kernel
theorem dX12_next_28 : decode cX12_next 28 = .ok (.getfield 419, 3) := by decide +kernel
theorem dX12_next_31 : decode cX12_next 31 = .ok (.iconst 1, 1) := by decide +kernel
theorem dX12_next_32 : decode cX12_next 32 = .ok (.iadd, 1) := by decide +kernel
theorem dX12_next_33 : decode cX12_next 33 = .ok (.putfield 419, 3) := by decide +kernel
theorem dX12_next_36 : decode cX12_next 36 = .ok (.goto (-36), 3) := by decide +kernel
theorem dX12_next_39 : decode cX12_next 39 = .ok (.aload_n 0, 1) := by decide +kernel
theorem dX12_next_40 : decode cX12_next 40 = .ok (.aload_n 0, 1) := by decide +kernel
theorem dX12_next_41 : decode cX12_next 41 = .ok (.getfield 419, 3) := by decide +kernel
theorem dX12_next_44 : decode cX12_next 44 = .ok (.putfield 425, 3) := by decide +kernel
theorem dX12_next_47 : decode cX12_next 47 = .ok (.aload_n 0, 1) := by decide +kernel
theorem dX12_next_48 : decode cX12_next 48 = .ok (.aload_n 0, 1) := by decide +kernel
theorem dX12_next_49 : decode cX12_next 49 = .ok (.getfield 419, 3) := by decide +kernel
theorem dX12_next_52 : decode cX12_next 52 = .ok (.invokevirtual 422, 3) := by decide +kernel
theorem dX12_next_55 : decode cX12_next 55 = .ok (.istore_n 1, 1) := by decide +kernel
theorem dX12_next_56 : decode cX12_next 56 = .ok (.iload_n 1, 1) := by decide +kernel
theorem dX12_next_57 : decode cX12_next 57 = .ok (.iconst (-1), 1) := by decide +kernel
theorem dX12_next_58 : decode cX12_next 58 = .ok (.if_icmp .ne 11, 3) := by decide +kernel
theorem dX12_next_61 : decode cX12_next 61 = .ok (.aload_n 0, 1) := by decide +kernel
theorem dX12_next_62 : decode cX12_next 62 = .ok (.iconst 0, 1) := by decide +kernel
theorem dX12_next_63 : decode cX12_next 63 = .ok (.putfield 428, 3) := by decide +kernel
theorem dX12_next_66 : decode cX12_next 66 = .ok (.goto 76, 3) := by decide +kernel
theorem dX12_next_69 : decode cX12_next 69 = .ok (.iload_n 1, 1) := by decide +kernel
theorem dX12_next_70 : decode cX12_next 70 = .ok (.invokestatic 431, 3) := by decide +kernel
theorem dX12_next_73 : decode cX12_next 73 = .ok (.ifCond .eq 38, 3) := by decide +kernel
theorem dX12_next_76 : decode cX12_next 76 = .ok (.aload_n 0, 1) := by decide +kernel
theorem dX12_next_77 : decode cX12_next 77 = .ok (.aload_n 0, 1) := by decide +kernel
theorem dX12_next_78 : decode cX12_next 78 = .ok (.getfield 419, 3) := by decide +kernel
theorem dX12_next_81 : decode cX12_next 81 = .ok (.invokevirtual 422, 3) := by decide +kernel
theorem dX12_next_84 : decode cX12_next 84 = .ok (.invokestatic 431, 3) := by decide +kernel
theorem dX12_next_87 : decode cX12_next 87 = .ok (.ifCond .eq 16, 3) := by decide +kernel
theorem dX12_next_90 : decode cX12_next 90 = .ok (.aload_n 0, 1) := by decide +kernel
theorem dX12_next_91 : decode cX12_next 91 = .ok (.dup, 1) := by decide +kernel
theorem dX12_next_92 : decode cX12_next 92 = .ok (.getfield 419, 3) := by decide +kernel
theorem dX12_next_95 : decode cX12_next 95 = .ok (.iconst 1, 1) := by decide +kernel
theorem dX12_next_96 : decode cX12_next 96 = .ok (.iadd, 1) := by decide +kernel
theorem dX12_next_97 : decode cX12_next 97 = .ok (.putfield 419, 3) := by decide +kernel
theorem dX12_next_100 : decode cX12_next 100 = .ok (.goto (-24), 3) := by decide +kernel
theorem dX12_next_103 : decode cX12_next 103 = .ok (.aload_n 0, 1) := by decide +kernel
theorem dX12_next_104 : decode cX12_next 104 = .ok (.iconst 2, 1) := by decide +kernel
theorem dX12_next_105 : decode cX12_next 105 = .ok (.putfield 428, 3) := by decide +kernel
theorem dX12_next_108 : decode cX12_next 108 = .ok (.goto 34, 3) := by decide +kernel
theorem dX12_next_111 : decode cX12_next 111 = .ok (.aload_n 0, 1) := by decide +kernel
theorem dX12_next_112 : decode cX12_next 112 = .ok (.dup, 1) := by decide +kernel
theorem dX12_next_113 : decode cX12_next 113 = .ok (.getfield 419, 3) := by decide +kernel
theorem dX12_next_116 : decode cX12_next 116 = .ok (.iconst 1, 1) := by decide +kernel
theorem dX12_next_117 : decode cX12_next 117 = .ok (.iadd, 1) := by decide +kernel
theorem dX12_next_118 : decode cX12_next 118 = .ok (.putfield 419, 3) := by decide +kernel
theorem dX12_next_121 : decode cX12_next 121 = .ok (.aload_n 0, 1) := by decide +kernel
theorem dX12_next_122 : decode cX12_next 122 = .ok (.iload_n 1, 1) := by decide +kernel
theorem dX12_next_123 : decode cX12_next 123 = .ok (.bipush 97, 2) := by decide +kernel
theorem dX12_next_125 : decode cX12_next 125 = .ok (.if_icmp .lt 13, 3) := by decide +kernel
theorem dX12_next_128 : decode cX12_next 128 = .ok (.iload_n 1, 1) := by decide +kernel
theorem dX12_next_129 : decode cX12_next 129 = .ok (.bipush 122, 2) := by decide +kernel
theorem dX12_next_131 : decode cX12_next 131 = .ok (.if_icmp .gt 7, 3) := by decide +kernel
theorem dX12_next_134 : decode cX12_next 134 = .ok (.iconst 1, 1) := by decide +kernel
theorem dX12_next_135 : decode cX12_next 135 = .ok (.goto 4, 3) := by decide +kernel
theorem dX12_next_138 : decode cX12_next 138 = .ok (.iconst 3, 1) := by decide +kernel
theorem dX12_next_139 : decode cX12_next 139 = .ok (.putfield 428, 3) := by decide +kernel
theorem dX12_next_142 : decode cX12_next 142 = .ok (.aload_n 0, 1) := by decide +kernel
theorem dX12_next_143 : decode cX12_next 143 = .ok (.aload_n 0, 1) := by decide +kernel
theorem dX12_next_144 : decode cX12_next 144 = .ok (.getfield 419, 3) := by decide +kernel
theorem dX12_next_147 : decode cX12_next 147 = .ok (.putfield 434, 3) := by decide +kernel
theorem dX12_next_150 : decode cX12_next 150 = .ok (.return_, 1) := by decide +kernel
theorem dX12_opens_0 : decode cX12_opens 0 = .ok (.aload_n 0, 1) := by decide +kernel
theorem dX12_opens_1 : decode cX12_opens 1 = .ok (.iload_n 1, 1) := by decide +kernel
theorem dX12_opens_2 : decode cX12_opens 2 = .ok (.putfield 416, 3) := by decide +kernel
theorem dX12_opens_5 : decode cX12_opens 5 = .ok (.aload_n 0, 1) := by decide +kernel
theorem dX12_opens_6 : decode cX12_opens 6 = .ok (.iconst 0, 1) := by decide +kernel
theorem dX12_opens_7 : decode cX12_opens 7 = .ok (.putfield 419, 3) := by decide +kernel
theorem dX12_opens_10 : decode cX12_opens 10 = .ok (.aload_n 0, 1) := by decide +kernel
theorem dX12_opens_11 : decode cX12_opens 11 = .ok (.iconst 0, 1) := by decide +kernel
theorem dX12_opens_12 : decode cX12_opens 12 = .ok (.putfield 378, 3) := by decide +kernel
theorem dX12_opens_15 : decode cX12_opens 15 = .ok (.aload_n 0, 1) := by decide +kernel
theorem dX12_opens_16 : decode cX12_opens 16 = .ok (.iconst 0, 1) := by decide +kernel
theorem dX12_opens_17 : decode cX12_opens 17 = .ok (.putfield 369, 3) := by decide +kernel
theorem dX12_opens_20 : decode cX12_opens 20 = .ok (.aload_n 0, 1) := by decide +kernel
theorem dX12_opens_21 : decode cX12_opens 21 = .ok (.invokevirtual 437, 3) := by decide +kernel
theorem dX12_opens_24 : decode cX12_opens 24 = .ok (.return_, 1) := by decide +kernel
theorem dX12_wrong_0 : decode cX12_wrong 0 = .ok (.aload_n 0, 1) := by decide +kernel
theorem dX12_wrong_1 : decode cX12_wrong 1 = .ok (.getfield 378, 3) := by decide +kernel
theorem dX12_wrong_4 : decode cX12_wrong 4 = .ok (.ifCond .eq 4, 3) := by decide +kernel
theorem dX12_wrong_7 : decode cX12_wrong 7 = .ok (.return_, 1) := by decide +kernel
theorem dX12_wrong_8 : decode cX12_wrong 8 = .ok (.aload_n 0, 1) := by decide +kernel
theorem dX12_wrong_9 : decode cX12_wrong 9 = .ok (.iload_n 1, 1) := by decide +kernel
theorem dX12_wrong_10 : decode cX12_wrong 10 = .ok (.putfield 378, 3) := by decide +kernel
theorem dX12_wrong_13 : decode cX12_wrong 13 = .ok (.aload_n 0, 1) := by decide +kernel
theorem dX12_wrong_14 : decode cX12_wrong 14 = .ok (.aload_n 0, 1) := by decide +kernel
theorem dX12_wrong_15 : decode cX12_wrong 15 = .ok (.getfield 425, 3) := by decide +kernel
theorem dX12_wrong_18 : decode cX12_wrong 18 = .ok (.putfield 381, 3) := by decide +kernel
theorem dX12_wrong_21 : decode cX12_wrong 21 = .ok (.return_, 1) := by decide +kernel
theorem dX12_pass_0 : decode cX12_pass 0 = .ok (.aload_n 0, 1) := by decide +kernel
theorem dX12_pass_1 : decode cX12_pass 1 = .ok (.getfield 378, 3) := by decide +kernel
theorem dX12_pass_4 : decode cX12_pass 4 = .ok (.ifCond .ne 7, 3) := by decide +kernel
theorem dX12_pass_7 : decode cX12_pass 7 = .ok (.aload_n 0, 1) := by decide +kernel
theorem dX12_pass_8 : decode cX12_pass 8 = .ok (.invokevirtual 437, 3) := by decide +kernel
theorem dX12_pass_11 : decode cX12_pass 11 = .ok (.return_, 1) := by decide +kernel
theorem dX12_isSign_0 : decode cX12_isSign 0 = .ok (.aload_n 0, 1) := by decide +kernel
theorem dX12_isSign_1 : decode cX12_isSign 1 = .ok (.getfield 378, 3) := by decide +kernel
theorem dX12_isSign_4 : decode cX12_isSign 4 = .ok (.ifCond .ne 28, 3) := by decide +kernel
theorem dX12_isSign_7 : decode cX12_isSign 7 = .ok (.aload_n 0, 1) := by decide +kernel
theorem dX12_isSign_8 : decode cX12_isSign 8 = .ok (.getfield 428, 3) := by decide +kernel
theorem dX12_isSign_11 : decode cX12_isSign 11 = .ok (.iconst 3, 1) := by decide +kernel
theorem dX12_isSign_12 : decode cX12_isSign 12 = .ok (.if_icmp .ne 20, 3) := by decide +kernel
theorem dX12_isSign_15 : decode cX12_isSign 15 = .ok (.aload_n 0, 1) := by decide +kernel
theorem dX12_isSign_16 : decode cX12_isSign 16 = .ok (.getfield 110, 3) := by decide +kernel
theorem dX12_isSign_19 : decode cX12_isSign 19 = .ok (.aload_n 0, 1) := by decide +kernel
theorem dX12_isSign_20 : decode cX12_isSign 20 = .ok (.getfield 425, 3) := by decide +kernel
theorem dX12_isSign_23 : decode cX12_isSign 23 = .ok (.iaload, 1) := by decide +kernel
theorem dX12_isSign_24 : decode cX12_isSign 24 = .ok (.iload_n 1, 1) := by decide +kernel
theorem dX12_isSign_25 : decode cX12_isSign 25 = .ok (.if_icmp .ne 7, 3) := by decide +kernel
theorem dX12_isSign_28 : decode cX12_isSign 28 = .ok (.iconst 1, 1) := by decide +kernel
theorem dX12_isSign_29 : decode cX12_isSign 29 = .ok (.goto 4, 3) := by decide +kernel
theorem dX12_isSign_32 : decode cX12_isSign 32 = .ok (.iconst 0, 1) := by decide +kernel
theorem dX12_isSign_33 : decode cX12_isSign 33 = .ok (.ireturn, 1) := by decide +kernel
theorem dX12_readNumber_0 : decode cX12_readNumber 0 = .ok (.aload_n 0, 1) := by decide +kernel
theorem dX12_readNumber_1 : decode cX12_readNumber 1 = .ok (.getfield 378, 3) := by decide +kernel
theorem dX12_readNumber_4 : decode cX12_readNumber 4 = .ok (.ifCond .ne 16, 3) := by decide +kernel
theorem dX12_readNumber_7 : decode cX12_readNumber 7 = .ok (.aload_n 0, 1) := by decide +kernel
theorem dX12_readNumber_8 : decode cX12_readNumber 8 = .ok (.getfield 428, 3) := by decide +kernel
theorem dX12_readNumber_11 : decode cX12_readNumber 11 = .ok (.iconst 2, 1) := by decide +kernel
theorem dX12_readNumber_12 : decode cX12_readNumber 12 = .ok (.if_icmp .eq 8, 3) := by decide +kernel
theorem dX12_readNumber_15 : decode cX12_readNumber 15 = .ok (.aload_n 0, 1) := by decide +kernel
theorem dX12_readNumber_16 : decode cX12_readNumber 16 = .ok (.iconst 1, 1) := by decide +kernel
theorem dX12_readNumber_17 : decode cX12_readNumber 17 = .ok (.invokevirtual 440, 3) := by decide +kernel
theorem dX12_readNumber_20 : decode cX12_readNumber 20 = .ok (.iconst 0, 1) := by decide +kernel
theorem dX12_readNumber_21 : decode cX12_readNumber 21 = .ok (.istore_n 2, 1) := by decide +kernel
theorem dX12_readNumber_22 : decode cX12_readNumber 22 = .ok (.aload_n 0, 1) := by decide +kernel
theorem dX12_readNumber_23 : decode cX12_readNumber 23 = .ok (.getfield 425, 3) := by decide +kernel
theorem dX12_readNumber_26 : decode cX12_readNumber 26 = .ok (.istore_n 3, 1) := by decide +kernel
theorem dX12_readNumber_27 : decode cX12_readNumber 27 = .ok (.aload_n 0, 1) := by decide +kernel
theorem dX12_readNumber_28 : decode cX12_readNumber 28 = .ok (.getfield 378, 3) := by decide +kernel
theorem dX12_readNumber_31 : decode cX12_readNumber 31 = .ok (.ifCond .ne 38, 3) := by decide +kernel
theorem dX12_readNumber_34 : decode cX12_readNumber 34 = .ok (.iload_n 3, 1) := by decide +kernel
theorem dX12_readNumber_35 : decode cX12_readNumber 35 = .ok (.aload_n 0, 1) := by decide +kernel
theorem dX12_readNumber_36 : decode cX12_readNumber 36 = .ok (.getfield 434, 3) := by decide +kernel
theorem dX12_readNumber_39 : decode cX12_readNumber 39 = .ok (.if_icmp .ge 30, 3) := by decide +kernel
theorem dX12_readNumber_42 : decode cX12_readNumber 42 = .ok (.sipush 1000, 3) := by decide +kernel
theorem dX12_readNumber_45 : decode cX12_readNumber 45 = .ok (.bipush 10, 2) := by decide +kernel
theorem dX12_readNumber_47 : decode cX12_readNumber 47 = .ok (.iload_n 2, 1) := by decide +kernel
theorem dX12_readNumber_48 : decode cX12_readNumber 48 = .ok (.imul, 1) := by decide +kernel
theorem dX12_readNumber_49 : decode cX12_readNumber 49 = .ok (.aload_n 0, 1) := by decide +kernel
theorem dX12_readNumber_50 : decode cX12_readNumber 50 = .ok (.getfield 110, 3) := by decide +kernel
theorem dX12_readNumber_53 : decode cX12_readNumber 53 = .ok (.iload_n 3, 1) := by decide +kernel
theorem dX12_readNumber_54 : decode cX12_readNumber 54 = .ok (.iaload, 1) := by decide +kernel
theorem dX12_readNumber_55 : decode cX12_readNumber 55 = .ok (.iadd, 1) := by decide +kernel
theorem dX12_readNumber_56 : decode cX12_readNumber 56 = .ok (.bipush 48, 2) := by decide +kernel
theorem dX12_readNumber_58 : decode cX12_readNumber 58 = .ok (.isub, 1) := by decide +kernel
theorem dX12_readNumber_59 : decode cX12_readNumber 59 = .ok (.invokestatic 336, 3) := by decide +kernel
theorem dX12_readNumber_62 : decode cX12_readNumber 62 = .ok (.istore_n 2, 1) := by decide +kernel
theorem dX12_readNumber_63 : decode cX12_readNumber 63 = .ok (.iinc 3 1, 3) := by decide +kernel
theorem dX12_readNumber_66 : decode cX12_readNumber 66 = .ok (.goto (-39), 3) := by decide +kernel
theorem dX12_readNumber_69 : decode cX12_readNumber 69 = .ok (.iload_n 2, 1) := by decide +kernel
theorem dX12_readNumber_70 : decode cX12_readNumber 70 = .ok (.iload_n 1, 1) := by decide +kernel
theorem dX12_readNumber_71 : decode cX12_readNumber 71 = .ok (.if_icmp .le 8, 3) := by decide +kernel
theorem dX12_readNumber_74 : decode cX12_readNumber 74 = .ok (.aload_n 0, 1) := by decide +kernel
theorem dX12_readNumber_75 : decode cX12_readNumber 75 = .ok (.iconst 2, 1) := by decide +kernel
theorem dX12_readNumber_76 : decode cX12_readNumber 76 = .ok (.invokevirtual 440, 3) := by decide +kernel
theorem dX12_readNumber_79 : decode cX12_readNumber 79 = .ok (.aload_n 0, 1) := by decide +kernel
theorem dX12_readNumber_80 : decode cX12_readNumber 80 = .ok (.invokevirtual 443, 3) := by decide +kernel
theorem dX12_readNumber_83 : decode cX12_readNumber 83 = .ok (.iload_n 2, 1) := by decide +kernel
theorem dX12_readNumber_84 : decode cX12_readNumber 84 = .ok (.ireturn, 1) := by decide +kernel
theorem dX12_named_0 : decode cX12_named 0 = .ok (.iconst 0, 1) := by decide +kernel
theorem dX12_named_1 : decode cX12_named 1 = .ok (.istore_n 2, 1) := by decide +kernel
theorem dX12_named_2 : decode cX12_named 2 = .ok (.iload_n 2, 1) := by decide +kernel
theorem dX12_named_3 : decode cX12_named 3 = .ok (.aload_n 0, 1) := by decide +kernel
theorem dX12_named_4 : decode cX12_named 4 = .ok (.getfield 369, 3) := by decide +kernel
theorem dX12_named_7 : decode cX12_named 7 = .ok (.if_icmp .ge 21, 3) := by decide +kernel
theorem dX12_named_10 : decode cX12_named 10 = .ok (.aload_n 0, 1) := by decide +kernel
theorem dX12_named_11 : decode cX12_named 11 = .ok (.getfield 89, 3) := by decide +kernel
theorem dX12_named_14 : decode cX12_named 14 = .ok (.iload_n 2, 1) := by decide +kernel
theorem dX12_named_15 : decode cX12_named 15 = .ok (.iaload, 1) := by decide +kernel
theorem dX12_named_16 : decode cX12_named 16 = .ok (.iload_n 1, 1) := by decide +kernel
theorem dX12_named_17 : decode cX12_named 17 = .ok (.if_icmp .ne 5, 3) := by decide +kernel
theorem dX12_named_20 : decode cX12_named 20 = .ok (.iload_n 2, 1) := by decide +kernel
theorem dX12_named_21 : decode cX12_named 21 = .ok (.ireturn, 1) := by decide +kernel
theorem dX12_named_22 : decode cX12_named 22 = .ok (.iinc 2 1, 3) := by decide +kernel
theorem dX12_named_25 : decode cX12_named 25 = .ok (.goto (-23), 3) := by decide +kernel
theorem dX12_named_28 : decode cX12_named 28 = .ok (.iconst (-1), 1) := by decide +kernel
theorem dX12_named_29 : decode cX12_named 29 = .ok (.ireturn, 1) := by decide +kernel
theorem dX12_readAtom_0 : decode cX12_readAtom 0 = .ok (.aload_n 0, 1) := by decide +kernel
theorem dX12_readAtom_1 : decode cX12_readAtom 1 = .ok (.getfield 378, 3) := by decide +kernel
theorem dX12_readAtom_4 : decode cX12_readAtom 4 = .ok (.ifCond .eq 4, 3) := by decide +kernel
theorem dX12_readAtom_7 : decode cX12_readAtom 7 = .ok (.return_, 1) := by decide +kernel
theorem dX12_readAtom_8 : decode cX12_readAtom 8 = .ok (.aload_n 0, 1) := by decide +kernel
theorem dX12_readAtom_9 : decode cX12_readAtom 9 = .ok (.getfield 428, 3) := by decide +kernel
theorem dX12_readAtom_12 : decode cX12_readAtom 12 = .ok (.iconst 2, 1) := by decide +kernel
theorem dX12_readAtom_13 : decode cX12_readAtom 13 = .ok (.if_icmp .ne 23, 3) := by decide +kernel
theorem dX12_readAtom_16 : decode cX12_readAtom 16 = .ok (.aload_n 0, 1) := by decide +kernel
theorem dX12_readAtom_17 : decode cX12_readAtom 17 = .ok (.getfield 95, 3) := by decide +kernel
theorem dX12_readAtom_20 : decode cX12_readAtom 20 = .ok (.iload_n 1, 1) := by decide +kernel
theorem dX12_readAtom_21 : decode cX12_readAtom 21 = .ok (.iconst 0, 1) := by decide +kernel
theorem dX12_readAtom_22 : decode cX12_readAtom 22 = .ok (.iastore, 1) := by decide +kernel
theorem dX12_readAtom_23 : decode cX12_readAtom 23 = .ok (.aload_n 0, 1) := by decide +kernel
theorem dX12_readAtom_24 : decode cX12_readAtom 24 = .ok (.getfield 98, 3) := by decide +kernel
theorem dX12_readAtom_27 : decode cX12_readAtom 27 = .ok (.iload_n 1, 1) := by decide +kernel
theorem dX12_readAtom_28 : decode cX12_readAtom 28 = .ok (.aload_n 0, 1) := by decide +kernel
theorem dX12_readAtom_29 : decode cX12_readAtom 29 = .ok (.bipush 99, 2) := by decide +kernel
theorem dX12_readAtom_31 : decode cX12_readAtom 31 = .ok (.invokevirtual 446, 3) := by decide +kernel
theorem dX12_readAtom_34 : decode cX12_readAtom 34 = .ok (.iastore, 1) := by decide +kernel
theorem dX12_readAtom_35 : decode cX12_readAtom 35 = .ok (.return_, 1) := by decide +kernel
theorem dX12_readAtom_36 : decode cX12_readAtom 36 = .ok (.aload_n 0, 1) := by decide +kernel
theorem dX12_readAtom_37 : decode cX12_readAtom 37 = .ok (.getfield 428, 3) := by decide +kernel
theorem dX12_readAtom_40 : decode cX12_readAtom 40 = .ok (.iconst 1, 1) := by decide +kernel
theorem dX12_readAtom_41 : decode cX12_readAtom 41 = .ok (.if_icmp .eq 9, 3) := by decide +kernel
theorem dX12_readAtom_44 : decode cX12_readAtom 44 = .ok (.aload_n 0, 1) := by decide +kernel
theorem dX12_readAtom_45 : decode cX12_readAtom 45 = .ok (.iconst 1, 1) := by decide +kernel
theorem dX12_readAtom_46 : decode cX12_readAtom 46 = .ok (.invokevirtual 440, 3) := by decide +kernel
theorem dX12_readAtom_49 : decode cX12_readAtom 49 = .ok (.return_, 1) := by decide +kernel
theorem dX12_readAtom_50 : decode cX12_readAtom 50 = .ok (.aload_n 0, 1) := by decide +kernel
theorem dX12_readAtom_51 : decode cX12_readAtom 51 = .ok (.getfield 110, 3) := by decide +kernel
theorem dX12_readAtom_54 : decode cX12_readAtom 54 = .ok (.aload_n 0, 1) := by decide +kernel
theorem dX12_readAtom_55 : decode cX12_readAtom 55 = .ok (.getfield 425, 3) := by decide +kernel
theorem dX12_readAtom_58 : decode cX12_readAtom 58 = .ok (.iaload, 1) := by decide +kernel
theorem dX12_readAtom_59 : decode cX12_readAtom 59 = .ok (.istore_n 2, 1) := by decide +kernel
theorem dX12_readAtom_60 : decode cX12_readAtom 60 = .ok (.aload_n 0, 1) := by decide +kernel
theorem dX12_readAtom_61 : decode cX12_readAtom 61 = .ok (.getfield 95, 3) := by decide +kernel
theorem dX12_readAtom_64 : decode cX12_readAtom 64 = .ok (.iload_n 1, 1) := by decide +kernel
theorem dX12_readAtom_65 : decode cX12_readAtom 65 = .ok (.iload_n 2, 1) := by decide +kernel
theorem dX12_readAtom_66 : decode cX12_readAtom 66 = .ok (.bipush 120, 2) := by decide +kernel
theorem dX12_readAtom_68 : decode cX12_readAtom 68 = .ok (.if_icmp .lt 7, 3) := by decide +kernel
theorem dX12_readAtom_71 : decode cX12_readAtom 71 = .ok (.iconst 1, 1) := by decide +kernel
theorem dX12_readAtom_72 : decode cX12_readAtom 72 = .ok (.goto 4, 3) := by decide +kernel
theorem dX12_readAtom_75 : decode cX12_readAtom 75 = .ok (.iconst 2, 1) := by decide +kernel
theorem dX12_readAtom_76 : decode cX12_readAtom 76 = .ok (.iastore, 1) := by decide +kernel
theorem dX12_readAtom_77 : decode cX12_readAtom 77 = .ok (.aload_n 0, 1) := by decide +kernel
theorem dX12_readAtom_78 : decode cX12_readAtom 78 = .ok (.getfield 98, 3) := by decide +kernel
theorem dX12_readAtom_81 : decode cX12_readAtom 81 = .ok (.iload_n 1, 1) := by decide +kernel
theorem dX12_readAtom_82 : decode cX12_readAtom 82 = .ok (.iload_n 2, 1) := by decide +kernel
theorem dX12_readAtom_83 : decode cX12_readAtom 83 = .ok (.bipush 120, 2) := by decide +kernel
theorem dX12_readAtom_85 : decode cX12_readAtom 85 = .ok (.if_icmp .lt 10, 3) := by decide +kernel
theorem dX12_readAtom_88 : decode cX12_readAtom 88 = .ok (.iload_n 2, 1) := by decide +kernel
theorem dX12_readAtom_89 : decode cX12_readAtom 89 = .ok (.bipush 120, 2) := by decide +kernel
theorem dX12_readAtom_91 : decode cX12_readAtom 91 = .ok (.isub, 1) := by decide +kernel
theorem dX12_readAtom_92 : decode cX12_readAtom 92 = .ok (.goto 11, 3) := by decide +kernel
theorem dX12_readAtom_95 : decode cX12_readAtom 95 = .ok (.aload_n 0, 1) := by decide +kernel
theorem dX12_readAtom_96 : decode cX12_readAtom 96 = .ok (.iload_n 2, 1) := by decide +kernel
theorem dX12_readAtom_97 : decode cX12_readAtom 97 = .ok (.bipush 96, 2) := by decide +kernel
theorem dX12_readAtom_99 : decode cX12_readAtom 99 = .ok (.isub, 1) := by decide +kernel
theorem dX12_readAtom_100 : decode cX12_readAtom 100 = .ok (.invokevirtual 449, 3) := by decide +kernel
theorem dX12_readAtom_103 : decode cX12_readAtom 103 = .ok (.iastore, 1) := by decide +kernel
theorem dX12_readAtom_104 : decode cX12_readAtom 104 = .ok (.aload_n 0, 1) := by decide +kernel
theorem dX12_readAtom_105 : decode cX12_readAtom 105 = .ok (.getfield 98, 3) := by decide +kernel
theorem dX12_readAtom_108 : decode cX12_readAtom 108 = .ok (.iload_n 1, 1) := by decide +kernel
theorem dX12_readAtom_109 : decode cX12_readAtom 109 = .ok (.iaload, 1) := by decide +kernel
theorem dX12_readAtom_110 : decode cX12_readAtom 110 = .ok (.iconst (-1), 1) := by decide +kernel
theorem dX12_readAtom_111 : decode cX12_readAtom 111 = .ok (.if_icmp .ne 8, 3) := by decide +kernel
theorem dX12_readAtom_114 : decode cX12_readAtom 114 = .ok (.aload_n 0, 1) := by decide +kernel
theorem dX12_readAtom_115 : decode cX12_readAtom 115 = .ok (.iconst 3, 1) := by decide +kernel
theorem dX12_readAtom_116 : decode cX12_readAtom 116 = .ok (.invokevirtual 440, 3) := by decide +kernel
theorem dX12_readAtom_119 : decode cX12_readAtom 119 = .ok (.aload_n 0, 1) := by decide +kernel
theorem dX12_readAtom_120 : decode cX12_readAtom 120 = .ok (.invokevirtual 443, 3) := by decide +kernel
theorem dX12_readAtom_123 : decode cX12_readAtom 123 = .ok (.return_, 1) := by decide +kernel
theorem dX12_readStep_0 : decode cX12_readStep 0 = .ok (.aload_n 0, 1) := by decide +kernel
theorem dX12_readStep_1 : decode cX12_readStep 1 = .ok (.getfield 378, 3) := by decide +kernel
theorem dX12_readStep_4 : decode cX12_readStep 4 = .ok (.ifCond .ne 26, 3) := by decide +kernel
theorem dX12_readStep_7 : decode cX12_readStep 7 = .ok (.aload_n 0, 1) := by decide +kernel
theorem dX12_readStep_8 : decode cX12_readStep 8 = .ok (.getfield 428, 3) := by decide +kernel
theorem dX12_readStep_11 : decode cX12_readStep 11 = .ok (.iconst 1, 1) := by decide +kernel
theorem dX12_readStep_12 : decode cX12_readStep 12 = .ok (.if_icmp .ne 18, 3) := by decide +kernel
theorem dX12_readStep_15 : decode cX12_readStep 15 = .ok (.aload_n 0, 1) := by decide +kernel
theorem dX12_readStep_16 : decode cX12_readStep 16 = .ok (.getfield 110, 3) := by decide +kernel
theorem dX12_readStep_19 : decode cX12_readStep 19 = .ok (.aload_n 0, 1) := by decide +kernel
theorem dX12_readStep_20 : decode cX12_readStep 20 = .ok (.getfield 425, 3) := by decide +kernel
theorem dX12_readStep_23 : decode cX12_readStep 23 = .ok (.iaload, 1) := by decide +kernel
theorem dX12_readStep_24 : decode cX12_readStep 24 = .ok (.bipush 96, 2) := by decide +kernel
theorem dX12_readStep_26 : decode cX12_readStep 26 = .ok (.isub, 1) := by decide +kernel
theorem dX12_readStep_27 : decode cX12_readStep 27 = .ok (.goto 4, 3) := by decide +kernel
theorem dX12_readStep_30 : decode cX12_readStep 30 = .ok (.iconst 0, 1) := by decide +kernel
theorem dX12_readStep_31 : decode cX12_readStep 31 = .ok (.istore_n 1, 1) := by decide +kernel
theorem dX12_readStep_32 : decode cX12_readStep 32 = .ok (.iload_n 1, 1) := by decide +kernel
theorem dX12_readStep_33 : decode cX12_readStep 33 = .ok (.ifCond .eq 9, 3) := by decide +kernel
theorem dX12_readStep_36 : decode cX12_readStep 36 = .ok (.iload_n 1, 1) := by decide +kernel
theorem dX12_readStep_37 : decode cX12_readStep 37 = .ok (.bipush 23, 2) := by decide +kernel
theorem dX12_readStep_39 : decode cX12_readStep 39 = .ok (.if_icmp .le 11, 3) := by decide +kernel
theorem dX12_readStep_42 : decode cX12_readStep 42 = .ok (.aload_n 0, 1) := by decide +kernel
theorem dX12_readStep_43 : decode cX12_readStep 43 = .ok (.iconst 1, 1) := by decide +kernel
theorem dX12_readStep_44 : decode cX12_readStep 44 = .ok (.invokevirtual 440, 3) := by decide +kernel
theorem dX12_readStep_47 : decode cX12_readStep 47 = .ok (.goto 17, 3) := by decide +kernel
theorem dX12_readStep_50 : decode cX12_readStep 50 = .ok (.aload_n 0, 1) := by decide +kernel
theorem dX12_readStep_51 : decode cX12_readStep 51 = .ok (.iload_n 1, 1) := by decide +kernel
theorem dX12_readStep_52 : decode cX12_readStep 52 = .ok (.invokevirtual 449, 3) := by decide +kernel
theorem dX12_readStep_55 : decode cX12_readStep 55 = .ok (.iconst (-1), 1) := by decide +kernel
theorem dX12_readStep_56 : decode cX12_readStep 56 = .ok (.if_icmp .eq 8, 3) := by decide +kernel
theorem dX12_readStep_59 : decode cX12_readStep 59 = .ok (.aload_n 0, 1) := by decide +kernel
theorem dX12_readStep_60 : decode cX12_readStep 60 = .ok (.iconst 3, 1) := by decide +kernel
theorem dX12_readStep_61 : decode cX12_readStep 61 = .ok (.invokevirtual 440, 3) := by decide +kernel
theorem dX12_readStep_64 : decode cX12_readStep 64 = .ok (.aload_n 0, 1) := by decide +kernel
theorem dX12_readStep_65 : decode cX12_readStep 65 = .ok (.invokevirtual 443, 3) := by decide +kernel
theorem dX12_readStep_68 : decode cX12_readStep 68 = .ok (.aload_n 0, 1) := by decide +kernel
theorem dX12_readStep_69 : decode cX12_readStep 69 = .ok (.bipush 61, 2) := by decide +kernel
theorem dX12_readStep_71 : decode cX12_readStep 71 = .ok (.invokevirtual 452, 3) := by decide +kernel
theorem dX12_readStep_74 : decode cX12_readStep 74 = .ok (.ifCond .ne 8, 3) := by decide +kernel
theorem dX12_readStep_77 : decode cX12_readStep 77 = .ok (.aload_n 0, 1) := by decide +kernel
theorem dX12_readStep_78 : decode cX12_readStep 78 = .ok (.iconst 1, 1) := by decide +kernel
theorem dX12_readStep_79 : decode cX12_readStep 79 = .ok (.invokevirtual 440, 3) := by decide +kernel
theorem dX12_readStep_82 : decode cX12_readStep 82 = .ok (.aload_n 0, 1) := by decide +kernel
theorem dX12_readStep_83 : decode cX12_readStep 83 = .ok (.invokevirtual 443, 3) := by decide +kernel
theorem dX12_readStep_86 : decode cX12_readStep 86 = .ok (.aload_n 0, 1) := by decide +kernel
theorem dX12_readStep_87 : decode cX12_readStep 87 = .ok (.getfield 369, 3) := by decide +kernel
theorem dX12_readStep_90 : decode cX12_readStep 90 = .ok (.istore_n 2, 1) := by decide +kernel
theorem dX12_readStep_91 : decode cX12_readStep 91 = .ok (.aload_n 0, 1) := by decide +kernel
theorem dX12_readStep_92 : decode cX12_readStep 92 = .ok (.getfield 378, 3) := by decide +kernel
theorem dX12_readStep_95 : decode cX12_readStep 95 = .ok (.ifCond .eq 4, 3) := by decide +kernel
theorem dX12_readStep_98 : decode cX12_readStep 98 = .ok (.return_, 1) := by decide +kernel
theorem dX12_readStep_99 : decode cX12_readStep 99 = .ok (.aload_n 0, 1) := by decide +kernel
theorem dX12_readStep_100 : decode cX12_readStep 100 = .ok (.iconst 2, 1) := by decide +kernel
theorem dX12_readStep_101 : decode cX12_readStep 101 = .ok (.iload_n 2, 1) := by decide +kernel
theorem dX12_readStep_102 : decode cX12_readStep 102 = .ok (.imul, 1) := by decide +kernel
theorem dX12_readStep_103 : decode cX12_readStep 103 = .ok (.invokevirtual 455, 3) := by decide +kernel
theorem dX12_readStep_106 : decode cX12_readStep 106 = .ok (.aload_n 0, 1) := by decide +kernel
theorem dX12_readStep_107 : decode cX12_readStep 107 = .ok (.getfield 92, 3) := by decide +kernel
theorem dX12_readStep_110 : decode cX12_readStep 110 = .ok (.iload_n 2, 1) := by decide +kernel
theorem dX12_readStep_111 : decode cX12_readStep 111 = .ok (.aload_n 0, 1) := by decide +kernel
theorem dX12_readStep_112 : decode cX12_readStep 112 = .ok (.bipush 43, 2) := by decide +kernel
theorem dX12_readStep_114 : decode cX12_readStep 114 = .ok (.invokevirtual 452, 3) := by decide +kernel
theorem dX12_readStep_117 : decode cX12_readStep 117 = .ok (.ifCond .eq 8, 3) := by decide +kernel
theorem dX12_readStep_120 : decode cX12_readStep 120 = .ok (.bipush 43, 2) := by decide +kernel
theorem dX12_readStep_122 : decode cX12_readStep 122 = .ok (.goto 46, 3) := by decide +kernel
theorem dX12_readStep_125 : decode cX12_readStep 125 = .ok (.aload_n 0, 1) := by decide +kernel
theorem dX12_readStep_126 : decode cX12_readStep 126 = .ok (.bipush 45, 2) := by decide +kernel
theorem dX12_readStep_128 : decode cX12_readStep 128 = .ok (.invokevirtual 452, 3) := by decide +kernel
theorem dX12_readStep_131 : decode cX12_readStep 131 = .ok (.ifCond .eq 8, 3) := by decide +kernel
theorem dX12_readStep_134 : decode cX12_readStep 134 = .ok (.bipush 45, 2) := by decide +kernel
theorem dX12_readStep_136 : decode cX12_readStep 136 = .ok (.goto 32, 3) := by decide +kernel
theorem dX12_readStep_139 : decode cX12_readStep 139 = .ok (.aload_n 0, 1) := by decide +kernel
theorem dX12_readStep_140 : decode cX12_readStep 140 = .ok (.bipush 42, 2) := by decide +kernel
theorem dX12_readStep_142 : decode cX12_readStep 142 = .ok (.invokevirtual 452, 3) := by decide +kernel
theorem dX12_readStep_145 : decode cX12_readStep 145 = .ok (.ifCond .eq 8, 3) := by decide +kernel
theorem dX12_readStep_148 : decode cX12_readStep 148 = .ok (.bipush 42, 2) := by decide +kernel
theorem dX12_readStep_150 : decode cX12_readStep 150 = .ok (.goto 18, 3) := by decide +kernel
theorem dX12_readStep_153 : decode cX12_readStep 153 = .ok (.aload_n 0, 1) := by decide +kernel
theorem dX12_readStep_154 : decode cX12_readStep 154 = .ok (.bipush 94, 2) := by decide +kernel
theorem dX12_readStep_156 : decode cX12_readStep 156 = .ok (.invokevirtual 452, 3) := by decide +kernel
theorem dX12_readStep_159 : decode cX12_readStep 159 = .ok (.ifCond .eq 8, 3) := by decide +kernel
theorem dX12_readStep_162 : decode cX12_readStep 162 = .ok (.bipush 94, 2) := by decide +kernel
theorem dX12_readStep_164 : decode cX12_readStep 164 = .ok (.goto 4, 3) := by decide +kernel
theorem dX12_readStep_167 : decode cX12_readStep 167 = .ok (.iconst 0, 1) := by decide +kernel
theorem dX12_readStep_168 : decode cX12_readStep 168 = .ok (.iastore, 1) := by decide +kernel
theorem dX12_readStep_169 : decode cX12_readStep 169 = .ok (.aload_n 0, 1) := by decide +kernel
theorem dX12_readStep_170 : decode cX12_readStep 170 = .ok (.getfield 92, 3) := by decide +kernel
theorem dX12_readStep_173 : decode cX12_readStep 173 = .ok (.iload_n 2, 1) := by decide +kernel
theorem dX12_readStep_174 : decode cX12_readStep 174 = .ok (.iaload, 1) := by decide +kernel
theorem dX12_readStep_175 : decode cX12_readStep 175 = .ok (.ifCond .eq 7, 3) := by decide +kernel
theorem dX12_readStep_178 : decode cX12_readStep 178 = .ok (.aload_n 0, 1) := by decide +kernel
theorem dX12_readStep_179 : decode cX12_readStep 179 = .ok (.invokevirtual 443, 3) := by decide +kernel
theorem dX12_readStep_182 : decode cX12_readStep 182 = .ok (.aload_n 0, 1) := by decide +kernel
theorem dX12_readStep_183 : decode cX12_readStep 183 = .ok (.getfield 92, 3) := by decide +kernel
theorem dX12_readStep_186 : decode cX12_readStep 186 = .ok (.iload_n 2, 1) := by decide +kernel
theorem dX12_readStep_187 : decode cX12_readStep 187 = .ok (.iaload, 1) := by decide +kernel
theorem dX12_readStep_188 : decode cX12_readStep 188 = .ok (.bipush 94, 2) := by decide +kernel
theorem dX12_readStep_190 : decode cX12_readStep 190 = .ok (.if_icmp .ne 22, 3) := by decide +kernel
theorem dX12_readStep_193 : decode cX12_readStep 193 = .ok (.aload_n 0, 1) := by decide +kernel
theorem dX12_readStep_194 : decode cX12_readStep 194 = .ok (.getfield 98, 3) := by decide +kernel
theorem dX12_readStep_197 : decode cX12_readStep 197 = .ok (.iconst 2, 1) := by decide +kernel
theorem dX12_readStep_198 : decode cX12_readStep 198 = .ok (.iload_n 2, 1) := by decide +kernel
theorem dX12_readStep_199 : decode cX12_readStep 199 = .ok (.imul, 1) := by decide +kernel
theorem dX12_readStep_200 : decode cX12_readStep 200 = .ok (.iconst 1, 1) := by decide +kernel
theorem dX12_readStep_201 : decode cX12_readStep 201 = .ok (.iadd, 1) := by decide +kernel
theorem dX12_readStep_202 : decode cX12_readStep 202 = .ok (.aload_n 0, 1) := by decide +kernel
theorem dX12_readStep_203 : decode cX12_readStep 203 = .ok (.bipush 9, 2) := by decide +kernel
theorem dX12_readStep_205 : decode cX12_readStep 205 = .ok (.invokevirtual 446, 3) := by decide +kernel
theorem dX12_readStep_208 : decode cX12_readStep 208 = .ok (.iastore, 1) := by decide +kernel
theorem dX12_readStep_209 : decode cX12_readStep 209 = .ok (.goto 21, 3) := by decide +kernel
theorem dX12_readStep_212 : decode cX12_readStep 212 = .ok (.aload_n 0, 1) := by decide +kernel
theorem dX12_readStep_213 : decode cX12_readStep 213 = .ok (.getfield 92, 3) := by decide +kernel
theorem dX12_readStep_216 : decode cX12_readStep 216 = .ok (.iload_n 2, 1) := by decide +kernel
theorem dX12_readStep_217 : decode cX12_readStep 217 = .ok (.iaload, 1) := by decide +kernel
theorem dX12_readStep_218 : decode cX12_readStep 218 = .ok (.ifCond .eq 12, 3) := by decide +kernel
theorem dX12_readStep_221 : decode cX12_readStep 221 = .ok (.aload_n 0, 1) := by decide +kernel
theorem dX12_readStep_222 : decode cX12_readStep 222 = .ok (.iconst 2, 1) := by decide +kernel
theorem dX12_readStep_223 : decode cX12_readStep 223 = .ok (.iload_n 2, 1) := by decide +kernel
theorem dX12_readStep_224 : decode cX12_readStep 224 = .ok (.imul, 1) := by decide +kernel
theorem dX12_readStep_225 : decode cX12_readStep 225 = .ok (.iconst 1, 1) := by decide +kernel
theorem dX12_readStep_226 : decode cX12_readStep 226 = .ok (.iadd, 1) := by decide +kernel
theorem dX12_readStep_227 : decode cX12_readStep 227 = .ok (.invokevirtual 455, 3) := by decide +kernel
theorem dX12_readStep_230 : decode cX12_readStep 230 = .ok (.aload_n 0, 1) := by decide +kernel
theorem dX12_readStep_231 : decode cX12_readStep 231 = .ok (.getfield 89, 3) := by decide +kernel
theorem dX12_readStep_234 : decode cX12_readStep 234 = .ok (.iload_n 2, 1) := by decide +kernel
theorem dX12_readStep_235 : decode cX12_readStep 235 = .ok (.iload_n 1, 1) := by decide +kernel
theorem dX12_readStep_236 : decode cX12_readStep 236 = .ok (.iastore, 1) := by decide +kernel
theorem dX12_readStep_237 : decode cX12_readStep 237 = .ok (.aload_n 0, 1) := by decide +kernel
theorem dX12_readStep_238 : decode cX12_readStep 238 = .ok (.dup, 1) := by decide +kernel
theorem dX12_readStep_239 : decode cX12_readStep 239 = .ok (.getfield 369, 3) := by decide +kernel
theorem dX12_readStep_242 : decode cX12_readStep 242 = .ok (.iconst 1, 1) := by decide +kernel
theorem dX12_readStep_243 : decode cX12_readStep 243 = .ok (.iadd, 1) := by decide +kernel
theorem dX12_readStep_244 : decode cX12_readStep 244 = .ok (.putfield 369, 3) := by decide +kernel
theorem dX12_readStep_247 : decode cX12_readStep 247 = .ok (.return_, 1) := by decide +kernel
theorem dX12_readProgram_0 : decode cX12_readProgram 0 = .ok (.iconst 1, 1) := by decide +kernel
theorem dX12_readProgram_1 : decode cX12_readProgram 1 = .ok (.istore_n 1, 1) := by decide +kernel
theorem dX12_readProgram_2 : decode cX12_readProgram 2 = .ok (.iload_n 1, 1) := by decide +kernel
theorem dX12_readProgram_3 : decode cX12_readProgram 3 = .ok (.ifCond .eq 49, 3) := by decide +kernel
theorem dX12_readProgram_6 : decode cX12_readProgram 6 = .ok (.aload_n 0, 1) := by decide +kernel
theorem dX12_readProgram_7 : decode cX12_readProgram 7 = .ok (.getfield 378, 3) := by decide +kernel
theorem dX12_readProgram_10 : decode cX12_readProgram 10 = .ok (.ifCond .ne 42, 3) := by decide +kernel
theorem dX12_readProgram_13 : decode cX12_readProgram 13 = .ok (.aload_n 0, 1) := by decide +kernel
theorem dX12_readProgram_14 : decode cX12_readProgram 14 = .ok (.invokevirtual 458, 3) := by decide +kernel
theorem dX12_readProgram_17 : decode cX12_readProgram 17 = .ok (.aload_n 0, 1) := by decide +kernel
theorem dX12_readProgram_18 : decode cX12_readProgram 18 = .ok (.bipush 59, 2) := by decide +kernel
theorem dX12_readProgram_20 : decode cX12_readProgram 20 = .ok (.invokevirtual 452, 3) := by decide +kernel
theorem dX12_readProgram_23 : decode cX12_readProgram 23 = .ok (.istore_n 1, 1) := by decide +kernel
theorem dX12_readProgram_24 : decode cX12_readProgram 24 = .ok (.iload_n 1, 1) := by decide +kernel
theorem dX12_readProgram_25 : decode cX12_readProgram 25 = .ok (.ifCond .eq 7, 3) := by decide +kernel
theorem dX12_readProgram_28 : decode cX12_readProgram 28 = .ok (.aload_n 0, 1) := by decide +kernel
theorem dX12_readProgram_29 : decode cX12_readProgram 29 = .ok (.invokevirtual 443, 3) := by decide +kernel
theorem dX12_readProgram_32 : decode cX12_readProgram 32 = .ok (.iload_n 1, 1) := by decide +kernel
theorem dX12_readProgram_33 : decode cX12_readProgram 33 = .ok (.ifCond .eq 14, 3) := by decide +kernel
theorem dX12_readProgram_36 : decode cX12_readProgram 36 = .ok (.aload_n 0, 1) := by decide +kernel
theorem dX12_readProgram_37 : decode cX12_readProgram 37 = .ok (.getfield 428, 3) := by decide +kernel
theorem dX12_readProgram_40 : decode cX12_readProgram 40 = .ok (.ifCond .eq 7, 3) := by decide +kernel
theorem dX12_readProgram_43 : decode cX12_readProgram 43 = .ok (.iconst 1, 1) := by decide +kernel
theorem dX12_readProgram_44 : decode cX12_readProgram 44 = .ok (.goto 4, 3) := by decide +kernel
theorem dX12_readProgram_47 : decode cX12_readProgram 47 = .ok (.iconst 0, 1) := by decide +kernel
theorem dX12_readProgram_48 : decode cX12_readProgram 48 = .ok (.istore_n 1, 1) := by decide +kernel
theorem dX12_readProgram_49 : decode cX12_readProgram 49 = .ok (.goto (-47), 3) := by decide +kernel
theorem dX12_readProgram_52 : decode cX12_readProgram 52 = .ok (.aload_n 0, 1) := by decide +kernel
theorem dX12_readProgram_53 : decode cX12_readProgram 53 = .ok (.getfield 378, 3) := by decide +kernel
theorem dX12_readProgram_56 : decode cX12_readProgram 56 = .ok (.ifCond .ne 15, 3) := by decide +kernel
theorem dX12_readProgram_59 : decode cX12_readProgram 59 = .ok (.aload_n 0, 1) := by decide +kernel
theorem dX12_readProgram_60 : decode cX12_readProgram 60 = .ok (.getfield 428, 3) := by decide +kernel
theorem dX12_readProgram_63 : decode cX12_readProgram 63 = .ok (.ifCond .eq 8, 3) := by decide +kernel
theorem dX12_readProgram_66 : decode cX12_readProgram 66 = .ok (.aload_n 0, 1) := by decide +kernel
theorem dX12_readProgram_67 : decode cX12_readProgram 67 = .ok (.iconst 1, 1) := by decide +kernel
theorem dX12_readProgram_68 : decode cX12_readProgram 68 = .ok (.invokevirtual 440, 3) := by decide +kernel
theorem dX12_readProgram_71 : decode cX12_readProgram 71 = .ok (.return_, 1) := by decide +kernel
