theorem dX9_multiply_7 : decode cX9_multiply 7 = .ok (.aload_n 2, 1) := by decide +kernel
theorem dX9_multiply_8 : decode cX9_multiply 8 = .ok (.getfield 60, 3) := by decide +kernel
theorem dX9_multiply_11 : decode cX9_multiply 11 = .ok (.ifCond .ne 9, 3) := by decide +kernel
theorem dX9_multiply_14 : decode cX9_multiply 14 = .ok (.aload_n 3, 1) := by decide +kernel
theorem dX9_multiply_15 : decode cX9_multiply 15 = .ok (.invokevirtual 57, 3) := by decide +kernel
theorem dX9_multiply_18 : decode cX9_multiply 18 = .ok (.iconst 1, 1) := by decide +kernel
theorem dX9_multiply_19 : decode cX9_multiply 19 = .ok (.ireturn, 1) := by decide +kernel
theorem dX9_multiply_20 : decode cX9_multiply 20 = .ok (.aload_n 1, 1) := by decide +kernel
theorem dX9_multiply_21 : decode cX9_multiply 21 = .ok (.iconst 0, 1) := by decide +kernel
theorem dX9_multiply_22 : decode cX9_multiply 22 = .ok (.invokevirtual 81, 3) := by decide +kernel
theorem dX9_multiply_25 : decode cX9_multiply 25 = .ok (.aload_n 2, 1) := by decide +kernel
theorem dX9_multiply_26 : decode cX9_multiply 26 = .ok (.iconst 0, 1) := by decide +kernel
theorem dX9_multiply_27 : decode cX9_multiply 27 = .ok (.invokevirtual 81, 3) := by decide +kernel
theorem dX9_multiply_30 : decode cX9_multiply 30 = .ok (.iadd, 1) := by decide +kernel
theorem dX9_multiply_31 : decode cX9_multiply 31 = .ok (.istore 4, 2) := by decide +kernel
theorem dX9_multiply_33 : decode cX9_multiply 33 = .ok (.aload_n 1, 1) := by decide +kernel
theorem dX9_multiply_34 : decode cX9_multiply 34 = .ok (.iconst 1, 1) := by decide +kernel
theorem dX9_multiply_35 : decode cX9_multiply 35 = .ok (.invokevirtual 81, 3) := by decide +kernel
theorem dX9_multiply_38 : decode cX9_multiply 38 = .ok (.aload_n 2, 1) := by decide +kernel
theorem dX9_multiply_39 : decode cX9_multiply 39 = .ok (.iconst 1, 1) := by decide +kernel
theorem dX9_multiply_40 : decode cX9_multiply 40 = .ok (.invokevirtual 81, 3) := by decide +kernel
theorem dX9_multiply_43 : decode cX9_multiply 43 = .ok (.iadd, 1) := by decide +kernel
theorem dX9_multiply_44 : decode cX9_multiply 44 = .ok (.istore 5, 2) := by decide +kernel
theorem dX9_multiply_46 : decode cX9_multiply 46 = .ok (.aload_n 1, 1) := by decide +kernel
theorem dX9_multiply_47 : decode cX9_multiply 47 = .ok (.iconst 2, 1) := by decide +kernel
theorem dX9_multiply_48 : decode cX9_multiply 48 = .ok (.invokevirtual 81, 3) := by decide +kernel
theorem dX9_multiply_51 : decode cX9_multiply 51 = .ok (.aload_n 2, 1) := by decide +kernel
theorem dX9_multiply_52 : decode cX9_multiply 52 = .ok (.iconst 2, 1) := by decide +kernel
theorem dX9_multiply_53 : decode cX9_multiply 53 = .ok (.invokevirtual 81, 3) := by decide +kernel
theorem dX9_multiply_56 : decode cX9_multiply 56 = .ok (.iadd, 1) := by decide +kernel
theorem dX9_multiply_57 : decode cX9_multiply 57 = .ok (.istore 6, 2) := by decide +kernel
theorem dX9_multiply_59 : decode cX9_multiply 59 = .ok (.iload 4, 2) := by decide +kernel
theorem dX9_multiply_61 : decode cX9_multiply 61 = .ok (.bipush 40, 2) := by decide +kernel
theorem dX9_multiply_63 : decode cX9_multiply 63 = .ok (.if_icmp .gt 17, 3) := by decide +kernel
theorem dX9_multiply_66 : decode cX9_multiply 66 = .ok (.iload 5, 2) := by decide +kernel
theorem dX9_multiply_68 : decode cX9_multiply 68 = .ok (.bipush 40, 2) := by decide +kernel
theorem dX9_multiply_70 : decode cX9_multiply 70 = .ok (.if_icmp .gt 10, 3) := by decide +kernel
theorem dX9_multiply_73 : decode cX9_multiply 73 = .ok (.iload 6, 2) := by decide +kernel
theorem dX9_multiply_75 : decode cX9_multiply 75 = .ok (.bipush 40, 2) := by decide +kernel
theorem dX9_multiply_77 : decode cX9_multiply 77 = .ok (.if_icmp .le 5, 3) := by decide +kernel
theorem dX9_multiply_80 : decode cX9_multiply 80 = .ok (.iconst 0, 1) := by decide +kernel
theorem dX9_multiply_81 : decode cX9_multiply 81 = .ok (.ireturn, 1) := by decide +kernel
theorem dX9_multiply_82 : decode cX9_multiply 82 = .ok (.aload_n 0, 1) := by decide +kernel
theorem dX9_multiply_83 : decode cX9_multiply 83 = .ok (.getfield 30, 3) := by decide +kernel
theorem dX9_multiply_86 : decode cX9_multiply 86 = .ok (.iload 4, 2) := by decide +kernel
theorem dX9_multiply_88 : decode cX9_multiply 88 = .ok (.iload 5, 2) := by decide +kernel
theorem dX9_multiply_90 : decode cX9_multiply 90 = .ok (.iload 6, 2) := by decide +kernel
theorem dX9_multiply_92 : decode cX9_multiply 92 = .ok (.invokevirtual 85, 3) := by decide +kernel
theorem dX9_multiply_95 : decode cX9_multiply 95 = .ok (.aload_n 0, 1) := by decide +kernel
theorem dX9_multiply_96 : decode cX9_multiply 96 = .ok (.aload_n 2, 1) := by decide +kernel
theorem dX9_multiply_97 : decode cX9_multiply 97 = .ok (.aload_n 0, 1) := by decide +kernel
theorem dX9_multiply_98 : decode cX9_multiply 98 = .ok (.getfield 30, 3) := by decide +kernel
theorem dX9_multiply_101 : decode cX9_multiply 101 = .ok (.invokevirtual 89, 3) := by decide +kernel
theorem dX9_multiply_104 : decode cX9_multiply 104 = .ok (.iconst 0, 1) := by decide +kernel
theorem dX9_multiply_105 : decode cX9_multiply 105 = .ok (.istore 7, 2) := by decide +kernel
theorem dX9_multiply_107 : decode cX9_multiply 107 = .ok (.iload 7, 2) := by decide +kernel
theorem dX9_multiply_109 : decode cX9_multiply 109 = .ok (.aload_n 1, 1) := by decide +kernel
theorem dX9_multiply_110 : decode cX9_multiply 110 = .ok (.getfield 60, 3) := by decide +kernel
theorem dX9_multiply_113 : decode cX9_multiply 113 = .ok (.if_icmp .ge 39, 3) := by decide +kernel
theorem dX9_multiply_116 : decode cX9_multiply 116 = .ok (.aload_n 0, 1) := by decide +kernel
theorem dX9_multiply_117 : decode cX9_multiply 117 = .ok (.aload_n 0, 1) := by decide +kernel
theorem dX9_multiply_118 : decode cX9_multiply 118 = .ok (.getfield 30, 3) := by decide +kernel
theorem dX9_multiply_121 : decode cX9_multiply 121 = .ok (.aload_n 0, 1) := by decide +kernel
theorem dX9_multiply_122 : decode cX9_multiply 122 = .ok (.getfield 30, 3) := by decide +kernel
theorem dX9_multiply_125 : decode cX9_multiply 125 = .ok (.aload_n 1, 1) := by decide +kernel
theorem dX9_multiply_126 : decode cX9_multiply 126 = .ok (.getfield 63, 3) := by decide +kernel
theorem dX9_multiply_129 : decode cX9_multiply 129 = .ok (.iload 7, 2) := by decide +kernel
theorem dX9_multiply_131 : decode cX9_multiply 131 = .ok (.iaload, 1) := by decide +kernel
theorem dX9_multiply_132 : decode cX9_multiply 132 = .ok (.invokevirtual 93, 3) := by decide +kernel
theorem dX9_multiply_135 : decode cX9_multiply 135 = .ok (.aload_n 1, 1) := by decide +kernel
theorem dX9_multiply_136 : decode cX9_multiply 136 = .ok (.getfield 66, 3) := by decide +kernel
theorem dX9_multiply_139 : decode cX9_multiply 139 = .ok (.iload 7, 2) := by decide +kernel
theorem dX9_multiply_141 : decode cX9_multiply 141 = .ok (.iaload, 1) := by decide +kernel
theorem dX9_multiply_142 : decode cX9_multiply 142 = .ok (.aload_n 2, 1) := by decide +kernel
theorem dX9_multiply_143 : decode cX9_multiply 143 = .ok (.invokevirtual 96, 3) := by decide +kernel
theorem dX9_multiply_146 : decode cX9_multiply 146 = .ok (.iinc 7 1, 3) := by decide +kernel
theorem dX9_multiply_149 : decode cX9_multiply 149 = .ok (.goto (-42), 3) := by decide +kernel
theorem dX9_multiply_152 : decode cX9_multiply 152 = .ok (.aload_n 0, 1) := by decide +kernel
theorem dX9_multiply_153 : decode cX9_multiply 153 = .ok (.getfield 30, 3) := by decide +kernel
theorem dX9_multiply_156 : decode cX9_multiply 156 = .ok (.aload_n 3, 1) := by decide +kernel
theorem dX9_multiply_157 : decode cX9_multiply 157 = .ok (.aload_n 0, 1) := by decide +kernel
theorem dX9_multiply_158 : decode cX9_multiply 158 = .ok (.getfield 9, 3) := by decide +kernel
theorem dX9_multiply_161 : decode cX9_multiply 161 = .ok (.invokevirtual 100, 3) := by decide +kernel
theorem dX9_multiply_164 : decode cX9_multiply 164 = .ok (.aload_n 3, 1) := by decide +kernel
theorem dX9_multiply_165 : decode cX9_multiply 165 = .ok (.getfield 104, 3) := by decide +kernel
theorem dX9_multiply_168 : decode cX9_multiply 168 = .ok (.ifCond .ne 7, 3) := by decide +kernel
theorem dX9_multiply_171 : decode cX9_multiply 171 = .ok (.iconst 1, 1) := by decide +kernel
theorem dX9_multiply_172 : decode cX9_multiply 172 = .ok (.goto 4, 3) := by decide +kernel
theorem dX9_multiply_175 : decode cX9_multiply 175 = .ok (.iconst 0, 1) := by decide +kernel
theorem dX9_multiply_176 : decode cX9_multiply 176 = .ok (.ireturn, 1) := by decide +kernel
theorem dX9_findOffsets_0 : decode cX9_findOffsets 0 = .ok (.iconst 0, 1) := by decide +kernel
theorem dX9_findOffsets_1 : decode cX9_findOffsets 1 = .ok (.istore_n 3, 1) := by decide +kernel
theorem dX9_findOffsets_2 : decode cX9_findOffsets 2 = .ok (.iload_n 3, 1) := by decide +kernel
theorem dX9_findOffsets_3 : decode cX9_findOffsets 3 = .ok (.aload_n 1, 1) := by decide +kernel
theorem dX9_findOffsets_4 : decode cX9_findOffsets 4 = .ok (.getfield 60, 3) := by decide +kernel
theorem dX9_findOffsets_7 : decode cX9_findOffsets 7 = .ok (.if_icmp .ge 25, 3) := by decide +kernel
theorem dX9_findOffsets_10 : decode cX9_findOffsets 10 = .ok (.aload_n 0, 1) := by decide +kernel
theorem dX9_findOffsets_11 : decode cX9_findOffsets 11 = .ok (.getfield 37, 3) := by decide +kernel
theorem dX9_findOffsets_14 : decode cX9_findOffsets 14 = .ok (.iload_n 3, 1) := by decide +kernel
theorem dX9_findOffsets_15 : decode cX9_findOffsets 15 = .ok (.aload_n 2, 1) := by decide +kernel
theorem dX9_findOffsets_16 : decode cX9_findOffsets 16 = .ok (.aload_n 1, 1) := by decide +kernel
theorem dX9_findOffsets_17 : decode cX9_findOffsets 17 = .ok (.getfield 63, 3) := by decide +kernel
theorem dX9_findOffsets_20 : decode cX9_findOffsets 20 = .ok (.iload_n 3, 1) := by decide +kernel
theorem dX9_findOffsets_21 : decode cX9_findOffsets 21 = .ok (.iaload, 1) := by decide +kernel
theorem dX9_findOffsets_22 : decode cX9_findOffsets 22 = .ok (.invokevirtual 93, 3) := by decide +kernel
theorem dX9_findOffsets_25 : decode cX9_findOffsets 25 = .ok (.iastore, 1) := by decide +kernel
theorem dX9_findOffsets_26 : decode cX9_findOffsets 26 = .ok (.iinc 3 1, 3) := by decide +kernel
theorem dX9_findOffsets_29 : decode cX9_findOffsets 29 = .ok (.goto (-27), 3) := by decide +kernel
theorem dX9_findOffsets_32 : decode cX9_findOffsets 32 = .ok (.return_, 1) := by decide +kernel
theorem dX9_addTimes_0 : decode cX9_addTimes 0 = .ok (.aload_n 1, 1) := by decide +kernel
theorem dX9_addTimes_1 : decode cX9_addTimes 1 = .ok (.getfield 108, 3) := by decide +kernel
theorem dX9_addTimes_4 : decode cX9_addTimes 4 = .ok (.astore 5, 2) := by decide +kernel
theorem dX9_addTimes_6 : decode cX9_addTimes 6 = .ok (.iconst 0, 1) := by decide +kernel
theorem dX9_addTimes_7 : decode cX9_addTimes 7 = .ok (.istore 6, 2) := by decide +kernel
theorem dX9_addTimes_9 : decode cX9_addTimes 9 = .ok (.iload 6, 2) := by decide +kernel
theorem dX9_addTimes_11 : decode cX9_addTimes 11 = .ok (.aload 4, 2) := by decide +kernel
theorem dX9_addTimes_13 : decode cX9_addTimes 13 = .ok (.getfield 60, 3) := by decide +kernel
theorem dX9_addTimes_16 : decode cX9_addTimes 16 = .ok (.if_icmp .ge 34, 3) := by decide +kernel
theorem dX9_addTimes_19 : decode cX9_addTimes 19 = .ok (.aload 5, 2) := by decide +kernel
theorem dX9_addTimes_21 : decode cX9_addTimes 21 = .ok (.iload_n 2, 1) := by decide +kernel
theorem dX9_addTimes_22 : decode cX9_addTimes 22 = .ok (.aload_n 0, 1) := by decide +kernel
theorem dX9_addTimes_23 : decode cX9_addTimes 23 = .ok (.getfield 37, 3) := by decide +kernel
theorem dX9_addTimes_26 : decode cX9_addTimes 26 = .ok (.iload 6, 2) := by decide +kernel
theorem dX9_addTimes_28 : decode cX9_addTimes 28 = .ok (.iaload, 1) := by decide +kernel
theorem dX9_addTimes_29 : decode cX9_addTimes 29 = .ok (.iadd, 1) := by decide +kernel
theorem dX9_addTimes_30 : decode cX9_addTimes 30 = .ok (.dup2, 1) := by decide +kernel
theorem dX9_addTimes_31 : decode cX9_addTimes 31 = .ok (.iaload, 1) := by decide +kernel
theorem dX9_addTimes_32 : decode cX9_addTimes 32 = .ok (.iload_n 3, 1) := by decide +kernel
theorem dX9_addTimes_33 : decode cX9_addTimes 33 = .ok (.aload 4, 2) := by decide +kernel
theorem dX9_addTimes_35 : decode cX9_addTimes 35 = .ok (.getfield 66, 3) := by decide +kernel
theorem dX9_addTimes_38 : decode cX9_addTimes 38 = .ok (.iload 6, 2) := by decide +kernel
theorem dX9_addTimes_40 : decode cX9_addTimes 40 = .ok (.iaload, 1) := by decide +kernel
theorem dX9_addTimes_41 : decode cX9_addTimes 41 = .ok (.imul, 1) := by decide +kernel
theorem dX9_addTimes_42 : decode cX9_addTimes 42 = .ok (.iadd, 1) := by decide +kernel
theorem dX9_addTimes_43 : decode cX9_addTimes 43 = .ok (.iastore, 1) := by decide +kernel
theorem dX9_addTimes_44 : decode cX9_addTimes 44 = .ok (.iinc 6 1, 3) := by decide +kernel
theorem dX9_addTimes_47 : decode cX9_addTimes 47 = .ok (.goto (-38), 3) := by decide +kernel
theorem dX9_addTimes_50 : decode cX9_addTimes 50 = .ok (.return_, 1) := by decide +kernel
theorem dX9_derivative_0 : decode cX9_derivative 0 = .ok (.aload_n 0, 1) := by decide +kernel
theorem dX9_derivative_1 : decode cX9_derivative 1 = .ok (.getfield 20, 3) := by decide +kernel
theorem dX9_derivative_4 : decode cX9_derivative 4 = .ok (.invokevirtual 57, 3) := by decide +kernel
theorem dX9_derivative_7 : decode cX9_derivative 7 = .ok (.iconst 0, 1) := by decide +kernel
theorem dX9_derivative_8 : decode cX9_derivative 8 = .ok (.istore_n 3, 1) := by decide +kernel
theorem dX9_derivative_9 : decode cX9_derivative 9 = .ok (.iload_n 3, 1) := by decide +kernel
theorem dX9_derivative_10 : decode cX9_derivative 10 = .ok (.aload_n 1, 1) := by decide +kernel
theorem dX9_derivative_11 : decode cX9_derivative 11 = .ok (.getfield 60, 3) := by decide +kernel
theorem dX9_derivative_14 : decode cX9_derivative 14 = .ok (.if_icmp .ge 58, 3) := by decide +kernel
theorem dX9_derivative_17 : decode cX9_derivative 17 = .ok (.aload_n 1, 1) := by decide +kernel
theorem dX9_derivative_18 : decode cX9_derivative 18 = .ok (.getfield 63, 3) := by decide +kernel
theorem dX9_derivative_21 : decode cX9_derivative 21 = .ok (.iload_n 3, 1) := by decide +kernel
theorem dX9_derivative_22 : decode cX9_derivative 22 = .ok (.iaload, 1) := by decide +kernel
theorem dX9_derivative_23 : decode cX9_derivative 23 = .ok (.iload_n 2, 1) := by decide +kernel
theorem dX9_derivative_24 : decode cX9_derivative 24 = .ok (.invokestatic 111, 3) := by decide +kernel
theorem dX9_derivative_27 : decode cX9_derivative 27 = .ok (.istore 4, 2) := by decide +kernel
theorem dX9_derivative_29 : decode cX9_derivative 29 = .ok (.iload 4, 2) := by decide +kernel
theorem dX9_derivative_31 : decode cX9_derivative 31 = .ok (.ifCond .le 35, 3) := by decide +kernel
theorem dX9_derivative_34 : decode cX9_derivative 34 = .ok (.aload_n 0, 1) := by decide +kernel
theorem dX9_derivative_35 : decode cX9_derivative 35 = .ok (.getfield 20, 3) := by decide +kernel
theorem dX9_derivative_38 : decode cX9_derivative 38 = .ok (.aload_n 1, 1) := by decide +kernel
theorem dX9_derivative_39 : decode cX9_derivative 39 = .ok (.getfield 63, 3) := by decide +kernel
theorem dX9_derivative_42 : decode cX9_derivative 42 = .ok (.iload_n 3, 1) := by decide +kernel
theorem dX9_derivative_43 : decode cX9_derivative 43 = .ok (.iaload, 1) := by decide +kernel
theorem dX9_derivative_44 : decode cX9_derivative 44 = .ok (.iload_n 2, 1) := by decide +kernel
theorem dX9_derivative_45 : decode cX9_derivative 45 = .ok (.invokestatic 115, 3) := by decide +kernel
theorem dX9_derivative_48 : decode cX9_derivative 48 = .ok (.isub, 1) := by decide +kernel
theorem dX9_derivative_49 : decode cX9_derivative 49 = .ok (.aload_n 1, 1) := by decide +kernel
theorem dX9_derivative_50 : decode cX9_derivative 50 = .ok (.getfield 66, 3) := by decide +kernel
theorem dX9_derivative_53 : decode cX9_derivative 53 = .ok (.iload_n 3, 1) := by decide +kernel
theorem dX9_derivative_54 : decode cX9_derivative 54 = .ok (.iaload, 1) := by decide +kernel
theorem dX9_derivative_55 : decode cX9_derivative 55 = .ok (.iload 4, 2) := by decide +kernel
theorem dX9_derivative_57 : decode cX9_derivative 57 = .ok (.imul, 1) := by decide +kernel
theorem dX9_derivative_58 : decode cX9_derivative 58 = .ok (.aload_n 0, 1) := by decide +kernel
theorem dX9_derivative_59 : decode cX9_derivative 59 = .ok (.getfield 9, 3) := by decide +kernel
theorem dX9_derivative_62 : decode cX9_derivative 62 = .ok (.irem, 1) := by decide +kernel
theorem dX9_derivative_63 : decode cX9_derivative 63 = .ok (.invokevirtual 69, 3) := by decide +kernel
theorem dX9_derivative_66 : decode cX9_derivative 66 = .ok (.iinc 3 1, 3) := by decide +kernel
theorem dX9_derivative_69 : decode cX9_derivative 69 = .ok (.goto (-60), 3) := by decide +kernel
theorem dX9_derivative_72 : decode cX9_derivative 72 = .ok (.aload_n 0, 1) := by decide +kernel
theorem dX9_derivative_73 : decode cX9_derivative 73 = .ok (.getfield 20, 3) := by decide +kernel
theorem dX9_derivative_76 : decode cX9_derivative 76 = .ok (.invokevirtual 73, 3) := by decide +kernel
theorem dX9_derivative_79 : decode cX9_derivative 79 = .ok (.areturn, 1) := by decide +kernel
theorem dX9_part_0 : decode cX9_part 0 = .ok (.aload_n 0, 1) := by decide +kernel
theorem dX9_part_1 : decode cX9_part 1 = .ok (.getfield 20, 3) := by decide +kernel
theorem dX9_part_4 : decode cX9_part 4 = .ok (.invokevirtual 57, 3) := by decide +kernel
theorem dX9_part_7 : decode cX9_part 7 = .ok (.iconst 0, 1) := by decide +kernel
theorem dX9_part_8 : decode cX9_part 8 = .ok (.istore_n 3, 1) := by decide +kernel
theorem dX9_part_9 : decode cX9_part 9 = .ok (.iload_n 3, 1) := by decide +kernel
theorem dX9_part_10 : decode cX9_part 10 = .ok (.aload_n 1, 1) := by decide +kernel
theorem dX9_part_11 : decode cX9_part 11 = .ok (.getfield 60, 3) := by decide +kernel
theorem dX9_part_14 : decode cX9_part 14 = .ok (.if_icmp .ge 41, 3) := by decide +kernel
theorem dX9_part_17 : decode cX9_part 17 = .ok (.aload_n 1, 1) := by decide +kernel
theorem dX9_part_18 : decode cX9_part 18 = .ok (.getfield 63, 3) := by decide +kernel
theorem dX9_part_21 : decode cX9_part 21 = .ok (.iload_n 3, 1) := by decide +kernel
theorem dX9_part_22 : decode cX9_part 22 = .ok (.iaload, 1) := by decide +kernel
theorem dX9_part_23 : decode cX9_part 23 = .ok (.invokestatic 118, 3) := by decide +kernel
theorem dX9_part_26 : decode cX9_part 26 = .ok (.iload_n 2, 1) := by decide +kernel
theorem dX9_part_27 : decode cX9_part 27 = .ok (.if_icmp .ne 22, 3) := by decide +kernel
theorem dX9_part_30 : decode cX9_part 30 = .ok (.aload_n 0, 1) := by decide +kernel
theorem dX9_part_31 : decode cX9_part 31 = .ok (.getfield 20, 3) := by decide +kernel
theorem dX9_part_34 : decode cX9_part 34 = .ok (.aload_n 1, 1) := by decide +kernel
theorem dX9_part_35 : decode cX9_part 35 = .ok (.getfield 63, 3) := by decide +kernel
theorem dX9_part_38 : decode cX9_part 38 = .ok (.iload_n 3, 1) := by decide +kernel
theorem dX9_part_39 : decode cX9_part 39 = .ok (.iaload, 1) := by decide +kernel
theorem dX9_part_40 : decode cX9_part 40 = .ok (.aload_n 1, 1) := by decide +kernel
theorem dX9_part_41 : decode cX9_part 41 = .ok (.getfield 66, 3) := by decide +kernel
theorem dX9_part_44 : decode cX9_part 44 = .ok (.iload_n 3, 1) := by decide +kernel
theorem dX9_part_45 : decode cX9_part 45 = .ok (.iaload, 1) := by decide +kernel
theorem dX9_part_46 : decode cX9_part 46 = .ok (.invokevirtual 69, 3) := by decide +kernel
theorem dX9_part_49 : decode cX9_part 49 = .ok (.iinc 3 1, 3) := by decide +kernel
theorem dX9_part_52 : decode cX9_part 52 = .ok (.goto (-43), 3) := by decide +kernel
theorem dX9_part_55 : decode cX9_part 55 = .ok (.aload_n 0, 1) := by decide +kernel
theorem dX9_part_56 : decode cX9_part 56 = .ok (.getfield 20, 3) := by decide +kernel
theorem dX9_part_59 : decode cX9_part 59 = .ok (.invokevirtual 73, 3) := by decide +kernel
theorem dX9_part_62 : decode cX9_part 62 = .ok (.areturn, 1) := by decide +kernel
theorem dX9_reducedExponent_0 : decode cX9_reducedExponent 0 = .ok (.iload_n 0, 1) := by decide +kernel
theorem dX9_reducedExponent_1 : decode cX9_reducedExponent 1 = .ok (.iload_n 1, 1) := by decide +kernel
theorem dX9_reducedExponent_2 : decode cX9_reducedExponent 2 = .ok (.if_icmp .ge 7, 3) := by decide +kernel
theorem dX9_reducedExponent_5 : decode cX9_reducedExponent 5 = .ok (.iload_n 0, 1) := by decide +kernel
theorem dX9_reducedExponent_6 : decode cX9_reducedExponent 6 = .ok (.goto 12, 3) := by decide +kernel
theorem dX9_reducedExponent_9 : decode cX9_reducedExponent 9 = .ok (.iload_n 0, 1) := by decide +kernel
theorem dX9_reducedExponent_10 : decode cX9_reducedExponent 10 = .ok (.iconst 1, 1) := by decide +kernel
theorem dX9_reducedExponent_11 : decode cX9_reducedExponent 11 = .ok (.isub, 1) := by decide +kernel
theorem dX9_reducedExponent_12 : decode cX9_reducedExponent 12 = .ok (.iload_n 1, 1) := by decide +kernel
theorem dX9_reducedExponent_13 : decode cX9_reducedExponent 13 = .ok (.iconst 1, 1) := by decide +kernel
theorem dX9_reducedExponent_14 : decode cX9_reducedExponent 14 = .ok (.isub, 1) := by decide +kernel
theorem dX9_reducedExponent_15 : decode cX9_reducedExponent 15 = .ok (.irem, 1) := by decide +kernel
theorem dX9_reducedExponent_16 : decode cX9_reducedExponent 16 = .ok (.iconst 1, 1) := by decide +kernel
theorem dX9_reducedExponent_17 : decode cX9_reducedExponent 17 = .ok (.iadd, 1) := by decide +kernel
theorem dX9_reducedExponent_18 : decode cX9_reducedExponent 18 = .ok (.ireturn, 1) := by decide +kernel
theorem dX9_reduced_0 : decode cX9_reduced 0 = .ok (.aload_n 0, 1) := by decide +kernel
theorem dX9_reduced_1 : decode cX9_reduced 1 = .ok (.getfield 9, 3) := by decide +kernel
theorem dX9_reduced_4 : decode cX9_reduced 4 = .ok (.iconst 1, 1) := by decide +kernel
theorem dX9_reduced_5 : decode cX9_reduced 5 = .ok (.isub, 1) := by decide +kernel
theorem dX9_reduced_6 : decode cX9_reduced 6 = .ok (.istore_n 2, 1) := by decide +kernel
theorem dX9_reduced_7 : decode cX9_reduced 7 = .ok (.aload_n 0, 1) := by decide +kernel
theorem dX9_reduced_8 : decode cX9_reduced 8 = .ok (.getfield 30, 3) := by decide +kernel
theorem dX9_reduced_11 : decode cX9_reduced 11 = .ok (.iload_n 2, 1) := by decide +kernel
theorem dX9_reduced_12 : decode cX9_reduced 12 = .ok (.aload_n 1, 1) := by decide +kernel
theorem dX9_reduced_13 : decode cX9_reduced 13 = .ok (.iconst 0, 1) := by decide +kernel
theorem dX9_reduced_14 : decode cX9_reduced 14 = .ok (.invokevirtual 121, 3) := by decide +kernel
theorem dX9_reduced_17 : decode cX9_reduced 17 = .ok (.invokestatic 124, 3) := by decide +kernel
theorem dX9_reduced_20 : decode cX9_reduced 20 = .ok (.iload_n 2, 1) := by decide +kernel
theorem dX9_reduced_21 : decode cX9_reduced 21 = .ok (.aload_n 1, 1) := by decide +kernel
theorem dX9_reduced_22 : decode cX9_reduced 22 = .ok (.iconst 1, 1) := by decide +kernel
theorem dX9_reduced_23 : decode cX9_reduced 23 = .ok (.invokevirtual 121, 3) := by decide +kernel
theorem dX9_reduced_26 : decode cX9_reduced 26 = .ok (.invokestatic 124, 3) := by decide +kernel
theorem dX9_reduced_29 : decode cX9_reduced 29 = .ok (.iload_n 2, 1) := by decide +kernel
theorem dX9_reduced_30 : decode cX9_reduced 30 = .ok (.aload_n 1, 1) := by decide +kernel
theorem dX9_reduced_31 : decode cX9_reduced 31 = .ok (.iconst 2, 1) := by decide +kernel
theorem dX9_reduced_32 : decode cX9_reduced 32 = .ok (.invokevirtual 121, 3) := by decide +kernel
theorem dX9_reduced_35 : decode cX9_reduced 35 = .ok (.invokestatic 124, 3) := by decide +kernel
theorem dX9_reduced_38 : decode cX9_reduced 38 = .ok (.invokevirtual 85, 3) := by decide +kernel
theorem dX9_reduced_41 : decode cX9_reduced 41 = .ok (.iconst 0, 1) := by decide +kernel
theorem dX9_reduced_42 : decode cX9_reduced 42 = .ok (.istore_n 3, 1) := by decide +kernel
theorem dX9_reduced_43 : decode cX9_reduced 43 = .ok (.iload_n 3, 1) := by decide +kernel
theorem dX9_reduced_44 : decode cX9_reduced 44 = .ok (.aload_n 1, 1) := by decide +kernel
theorem dX9_reduced_45 : decode cX9_reduced 45 = .ok (.getfield 60, 3) := by decide +kernel
theorem dX9_reduced_48 : decode cX9_reduced 48 = .ok (.if_icmp .ge 82, 3) := by decide +kernel
theorem dX9_reduced_51 : decode cX9_reduced 51 = .ok (.iconst 0, 1) := by decide +kernel
theorem dX9_reduced_52 : decode cX9_reduced 52 = .ok (.istore 4, 2) := by decide +kernel
theorem dX9_reduced_54 : decode cX9_reduced 54 = .ok (.iconst 0, 1) := by decide +kernel
theorem dX9_reduced_55 : decode cX9_reduced 55 = .ok (.istore 5, 2) := by decide +kernel
theorem dX9_reduced_57 : decode cX9_reduced 57 = .ok (.iload 5, 2) := by decide +kernel
theorem dX9_reduced_59 : decode cX9_reduced 59 = .ok (.iconst 3, 1) := by decide +kernel
theorem dX9_reduced_60 : decode cX9_reduced 60 = .ok (.if_icmp .ge 38, 3) := by decide +kernel
theorem dX9_reduced_63 : decode cX9_reduced 63 = .ok (.iload 4, 2) := by decide +kernel
theorem dX9_reduced_65 : decode cX9_reduced 65 = .ok (.aload_n 1, 1) := by decide +kernel
theorem dX9_reduced_66 : decode cX9_reduced 66 = .ok (.getfield 63, 3) := by decide +kernel
theorem dX9_reduced_69 : decode cX9_reduced 69 = .ok (.iload_n 3, 1) := by decide +kernel
theorem dX9_reduced_70 : decode cX9_reduced 70 = .ok (.iaload, 1) := by decide +kernel
theorem dX9_reduced_71 : decode cX9_reduced 71 = .ok (.iload 5, 2) := by decide +kernel
theorem dX9_reduced_73 : decode cX9_reduced 73 = .ok (.invokestatic 111, 3) := by decide +kernel
theorem dX9_reduced_76 : decode cX9_reduced 76 = .ok (.aload_n 0, 1) := by decide +kernel
theorem dX9_reduced_77 : decode cX9_reduced 77 = .ok (.getfield 9, 3) := by decide +kernel
theorem dX9_reduced_80 : decode cX9_reduced 80 = .ok (.invokestatic 129, 3) := by decide +kernel
theorem dX9_reduced_83 : decode cX9_reduced 83 = .ok (.iload 5, 2) := by decide +kernel
theorem dX9_reduced_85 : decode cX9_reduced 85 = .ok (.invokestatic 115, 3) := by decide +kernel
theorem dX9_reduced_88 : decode cX9_reduced 88 = .ok (.imul, 1) := by decide +kernel
theorem dX9_reduced_89 : decode cX9_reduced 89 = .ok (.iadd, 1) := by decide +kernel
theorem dX9_reduced_90 : decode cX9_reduced 90 = .ok (.istore 4, 2) := by decide +kernel
theorem dX9_reduced_92 : decode cX9_reduced 92 = .ok (.iinc 5 1, 3) := by decide +kernel
theorem dX9_reduced_95 : decode cX9_reduced 95 = .ok (.goto (-38), 3) := by decide +kernel
theorem dX9_reduced_98 : decode cX9_reduced 98 = .ok (.aload_n 0, 1) := by decide +kernel
theorem dX9_reduced_99 : decode cX9_reduced 99 = .ok (.getfield 30, 3) := by decide +kernel
theorem dX9_reduced_102 : decode cX9_reduced 102 = .ok (.getfield 108, 3) := by decide +kernel
theorem dX9_reduced_105 : decode cX9_reduced 105 = .ok (.aload_n 0, 1) := by decide +kernel
theorem dX9_reduced_106 : decode cX9_reduced 106 = .ok (.getfield 30, 3) := by decide +kernel
theorem dX9_reduced_109 : decode cX9_reduced 109 = .ok (.iload 4, 2) := by decide +kernel
theorem dX9_reduced_111 : decode cX9_reduced 111 = .ok (.invokevirtual 93, 3) := by decide +kernel
theorem dX9_reduced_114 : decode cX9_reduced 114 = .ok (.dup2, 1) := by decide +kernel
theorem dX9_reduced_115 : decode cX9_reduced 115 = .ok (.iaload, 1) := by decide +kernel
theorem dX9_reduced_116 : decode cX9_reduced 116 = .ok (.aload_n 1, 1) := by decide +kernel
theorem dX9_reduced_117 : decode cX9_reduced 117 = .ok (.getfield 66, 3) := by decide +kernel
theorem dX9_reduced_120 : decode cX9_reduced 120 = .ok (.iload_n 3, 1) := by decide +kernel
theorem dX9_reduced_121 : decode cX9_reduced 121 = .ok (.iaload, 1) := by decide +kernel
theorem dX9_reduced_122 : decode cX9_reduced 122 = .ok (.iadd, 1) := by decide +kernel
theorem dX9_reduced_123 : decode cX9_reduced 123 = .ok (.iastore, 1) := by decide +kernel
theorem dX9_reduced_124 : decode cX9_reduced 124 = .ok (.iinc 3 1, 3) := by decide +kernel
theorem dX9_reduced_127 : decode cX9_reduced 127 = .ok (.goto (-84), 3) := by decide +kernel
theorem dX9_reduced_130 : decode cX9_reduced 130 = .ok (.aload_n 0, 1) := by decide +kernel
theorem dX9_reduced_131 : decode cX9_reduced 131 = .ok (.getfield 30, 3) := by decide +kernel
theorem dX9_reduced_134 : decode cX9_reduced 134 = .ok (.aload_n 0, 1) := by decide +kernel
theorem dX9_reduced_135 : decode cX9_reduced 135 = .ok (.getfield 20, 3) := by decide +kernel
theorem dX9_reduced_138 : decode cX9_reduced 138 = .ok (.aload_n 0, 1) := by decide +kernel
theorem dX9_reduced_139 : decode cX9_reduced 139 = .ok (.getfield 9, 3) := by decide +kernel
theorem dX9_reduced_142 : decode cX9_reduced 142 = .ok (.invokevirtual 100, 3) := by decide +kernel
theorem dX9_reduced_145 : decode cX9_reduced 145 = .ok (.aload_n 0, 1) := by decide +kernel
theorem dX9_reduced_146 : decode cX9_reduced 146 = .ok (.getfield 20, 3) := by decide +kernel
theorem dX9_reduced_149 : decode cX9_reduced 149 = .ok (.invokevirtual 73, 3) := by decide +kernel
theorem dX9_reduced_152 : decode cX9_reduced 152 = .ok (.areturn, 1) := by decide +kernel
theorem dX9_turned_0 : decode cX9_turned 0 = .ok (.iconst 0, 1) := by decide +kernel
theorem dX9_turned_1 : decode cX9_turned 1 = .ok (.istore_n 3, 1) := by decide +kernel
theorem dX9_turned_2 : decode cX9_turned 2 = .ok (.iconst 0, 1) := by decide +kernel
theorem dX9_turned_3 : decode cX9_turned 3 = .ok (.istore 4, 2) := by decide +kernel
theorem dX9_turned_5 : decode cX9_turned 5 = .ok (.iload 4, 2) := by decide +kernel
theorem dX9_turned_7 : decode cX9_turned 7 = .ok (.iconst 3, 1) := by decide +kernel
theorem dX9_turned_8 : decode cX9_turned 8 = .ok (.if_icmp .ge 32, 3) := by decide +kernel
theorem dX9_turned_11 : decode cX9_turned 11 = .ok (.iload_n 3, 1) := by decide +kernel
theorem dX9_turned_12 : decode cX9_turned 12 = .ok (.aload_n 1, 1) := by decide +kernel
theorem dX9_turned_13 : decode cX9_turned 13 = .ok (.iload 4, 2) := by decide +kernel
theorem dX9_turned_15 : decode cX9_turned 15 = .ok (.invokevirtual 121, 3) := by decide +kernel
theorem dX9_turned_18 : decode cX9_turned 18 = .ok (.getstatic 132, 3) := by decide +kernel
theorem dX9_turned_21 : decode cX9_turned 21 = .ok (.iload_n 2, 1) := by decide +kernel
theorem dX9_turned_22 : decode cX9_turned 22 = .ok (.iconst 3, 1) := by decide +kernel
theorem dX9_turned_23 : decode cX9_turned 23 = .ok (.imul, 1) := by decide +kernel
theorem dX9_turned_24 : decode cX9_turned 24 = .ok (.iload 4, 2) := by decide +kernel
theorem dX9_turned_26 : decode cX9_turned 26 = .ok (.iadd, 1) := by decide +kernel
theorem dX9_turned_27 : decode cX9_turned 27 = .ok (.iaload, 1) := by decide +kernel
theorem dX9_turned_28 : decode cX9_turned 28 = .ok (.invokestatic 115, 3) := by decide +kernel
theorem dX9_turned_31 : decode cX9_turned 31 = .ok (.imul, 1) := by decide +kernel
theorem dX9_turned_32 : decode cX9_turned 32 = .ok (.iadd, 1) := by decide +kernel
theorem dX9_turned_33 : decode cX9_turned 33 = .ok (.istore_n 3, 1) := by decide +kernel
theorem dX9_turned_34 : decode cX9_turned 34 = .ok (.iinc 4 1, 3) := by decide +kernel
theorem dX9_turned_37 : decode cX9_turned 37 = .ok (.goto (-32), 3) := by decide +kernel
theorem dX9_turned_40 : decode cX9_turned 40 = .ok (.aload_n 0, 1) := by decide +kernel
theorem dX9_turned_41 : decode cX9_turned 41 = .ok (.getfield 30, 3) := by decide +kernel
theorem dX9_turned_44 : decode cX9_turned 44 = .ok (.iload_n 3, 1) := by decide +kernel
theorem dX9_turned_45 : decode cX9_turned 45 = .ok (.iconst 0, 1) := by decide +kernel
theorem dX9_turned_46 : decode cX9_turned 46 = .ok (.invokestatic 111, 3) := by decide +kernel
theorem dX9_turned_49 : decode cX9_turned 49 = .ok (.iload_n 3, 1) := by decide +kernel
theorem dX9_turned_50 : decode cX9_turned 50 = .ok (.iconst 1, 1) := by decide +kernel
theorem dX9_turned_51 : decode cX9_turned 51 = .ok (.invokestatic 111, 3) := by decide +kernel
theorem dX9_turned_54 : decode cX9_turned 54 = .ok (.iload_n 3, 1) := by decide +kernel
theorem dX9_turned_55 : decode cX9_turned 55 = .ok (.iconst 2, 1) := by decide +kernel
theorem dX9_turned_56 : decode cX9_turned 56 = .ok (.invokestatic 111, 3) := by decide +kernel
theorem dX9_turned_59 : decode cX9_turned 59 = .ok (.invokevirtual 85, 3) := by decide +kernel
theorem dX9_turned_62 : decode cX9_turned 62 = .ok (.iconst 0, 1) := by decide +kernel
theorem dX9_turned_63 : decode cX9_turned 63 = .ok (.istore 4, 2) := by decide +kernel
theorem dX9_turned_65 : decode cX9_turned 65 = .ok (.iload 4, 2) := by decide +kernel
theorem dX9_turned_67 : decode cX9_turned 67 = .ok (.aload_n 1, 1) := by decide +kernel
theorem dX9_turned_68 : decode cX9_turned 68 = .ok (.getfield 60, 3) := by decide +kernel
theorem dX9_turned_71 : decode cX9_turned 71 = .ok (.if_icmp .ge 82, 3) := by decide +kernel
theorem dX9_turned_74 : decode cX9_turned 74 = .ok (.iconst 0, 1) := by decide +kernel
theorem dX9_turned_75 : decode cX9_turned 75 = .ok (.istore 5, 2) := by decide +kernel
theorem dX9_turned_77 : decode cX9_turned 77 = .ok (.iconst 0, 1) := by decide +kernel
theorem dX9_turned_78 : decode cX9_turned 78 = .ok (.istore 6, 2) := by decide +kernel
theorem dX9_turned_80 : decode cX9_turned 80 = .ok (.iload 6, 2) := by decide +kernel
theorem dX9_turned_82 : decode cX9_turned 82 = .ok (.iconst 3, 1) := by decide +kernel
theorem dX9_turned_83 : decode cX9_turned 83 = .ok (.if_icmp .ge 40, 3) := by decide +kernel
theorem dX9_turned_86 : decode cX9_turned 86 = .ok (.iload 5, 2) := by decide +kernel
theorem dX9_turned_88 : decode cX9_turned 88 = .ok (.aload_n 1, 1) := by decide +kernel
theorem dX9_turned_89 : decode cX9_turned 89 = .ok (.getfield 63, 3) := by decide +kernel
theorem dX9_turned_92 : decode cX9_turned 92 = .ok (.iload 4, 2) := by decide +kernel
theorem dX9_turned_94 : decode cX9_turned 94 = .ok (.iaload, 1) := by decide +kernel
theorem dX9_turned_95 : decode cX9_turned 95 = .ok (.iload 6, 2) := by decide +kernel
theorem dX9_turned_97 : decode cX9_turned 97 = .ok (.invokestatic 111, 3) := by decide +kernel
theorem dX9_turned_100 : decode cX9_turned 100 = .ok (.getstatic 132, 3) := by decide +kernel
theorem dX9_turned_103 : decode cX9_turned 103 = .ok (.iload_n 2, 1) := by decide +kernel
theorem dX9_turned_104 : decode cX9_turned 104 = .ok (.iconst 3, 1) := by decide +kernel
theorem dX9_turned_105 : decode cX9_turned 105 = .ok (.imul, 1) := by decide +kernel
theorem dX9_turned_106 : decode cX9_turned 106 = .ok (.iload 6, 2) := by decide +kernel
theorem dX9_turned_108 : decode cX9_turned 108 = .ok (.iadd, 1) := by decide +kernel
theorem dX9_turned_109 : decode cX9_turned 109 = .ok (.iaload, 1) := by decide +kernel
theorem dX9_turned_110 : decode cX9_turned 110 = .ok (.invokestatic 115, 3) := by decide +kernel
theorem dX9_turned_113 : decode cX9_turned 113 = .ok (.imul, 1) := by decide +kernel
theorem dX9_turned_114 : decode cX9_turned 114 = .ok (.iadd, 1) := by decide +kernel
theorem dX9_turned_115 : decode cX9_turned 115 = .ok (.istore 5, 2) := by decide +kernel
theorem dX9_turned_117 : decode cX9_turned 117 = .ok (.iinc 6 1, 3) := by decide +kernel
theorem dX9_turned_120 : decode cX9_turned 120 = .ok (.goto (-40), 3) := by decide +kernel
theorem dX9_turned_123 : decode cX9_turned 123 = .ok (.aload_n 0, 1) := by decide +kernel
theorem dX9_turned_124 : decode cX9_turned 124 = .ok (.getfield 30, 3) := by decide +kernel
theorem dX9_turned_127 : decode cX9_turned 127 = .ok (.getfield 108, 3) := by decide +kernel
theorem dX9_turned_130 : decode cX9_turned 130 = .ok (.aload_n 0, 1) := by decide +kernel
theorem dX9_turned_131 : decode cX9_turned 131 = .ok (.getfield 30, 3) := by decide +kernel
theorem dX9_turned_134 : decode cX9_turned 134 = .ok (.iload 5, 2) := by decide +kernel
theorem dX9_turned_136 : decode cX9_turned 136 = .ok (.invokevirtual 93, 3) := by decide +kernel
theorem dX9_turned_139 : decode cX9_turned 139 = .ok (.aload_n 1, 1) := by decide +kernel
theorem dX9_turned_140 : decode cX9_turned 140 = .ok (.getfield 66, 3) := by decide +kernel
theorem dX9_turned_143 : decode cX9_turned 143 = .ok (.iload 4, 2) := by decide +kernel
theorem dX9_turned_145 : decode cX9_turned 145 = .ok (.iaload, 1) := by decide +kernel
theorem dX9_turned_146 : decode cX9_turned 146 = .ok (.iastore, 1) := by decide +kernel
theorem dX9_turned_147 : decode cX9_turned 147 = .ok (.iinc 4 1, 3) := by decide +kernel
theorem dX9_turned_150 : decode cX9_turned 150 = .ok (.goto (-85), 3) := by decide +kernel
theorem dX9_turned_153 : decode cX9_turned 153 = .ok (.aload_n 0, 1) := by decide +kernel
theorem dX9_turned_154 : decode cX9_turned 154 = .ok (.getfield 30, 3) := by decide +kernel
theorem dX9_turned_157 : decode cX9_turned 157 = .ok (.aload_n 0, 1) := by decide +kernel
theorem dX9_turned_158 : decode cX9_turned 158 = .ok (.getfield 20, 3) := by decide +kernel
theorem dX9_turned_161 : decode cX9_turned 161 = .ok (.aload_n 0, 1) := by decide +kernel
theorem dX9_turned_162 : decode cX9_turned 162 = .ok (.getfield 9, 3) := by decide +kernel
theorem dX9_turned_165 : decode cX9_turned 165 = .ok (.invokevirtual 100, 3) := by decide +kernel
theorem dX9_turned_168 : decode cX9_turned 168 = .ok (.aload_n 0, 1) := by decide +kernel
theorem dX9_turned_169 : decode cX9_turned 169 = .ok (.getfield 20, 3) := by decide +kernel
theorem dX9_turned_172 : decode cX9_turned 172 = .ok (.invokevirtual 73, 3) := by decide +kernel
theorem dX9_turned_175 : decode cX9_turned 175 = .ok (.areturn, 1) := by decide +kernel
theorem dX9_putInto_0 : decode cX9_putInto 0 = .ok (.aload_n 1, 1) := by decide +kernel
theorem dX9_putInto_1 : decode cX9_putInto 1 = .ok (.iload_n 2, 1) := by decide +kernel
theorem dX9_putInto_2 : decode cX9_putInto 2 = .ok (.invokevirtual 121, 3) := by decide +kernel
theorem dX9_putInto_5 : decode cX9_putInto 5 = .ok (.istore 4, 2) := by decide +kernel
theorem dX9_putInto_7 : decode cX9_putInto 7 = .ok (.iconst 0, 1) := by decide +kernel
theorem dX9_putInto_8 : decode cX9_putInto 8 = .ok (.istore 5, 2) := by decide +kernel
theorem dX9_putInto_10 : decode cX9_putInto 10 = .ok (.iload 5, 2) := by decide +kernel
theorem dX9_putInto_12 : decode cX9_putInto 12 = .ok (.iconst 3, 1) := by decide +kernel
theorem dX9_putInto_13 : decode cX9_putInto 13 = .ok (.if_icmp .ge 25, 3) := by decide +kernel
theorem dX9_putInto_16 : decode cX9_putInto 16 = .ok (.iload 4, 2) := by decide +kernel
theorem dX9_putInto_18 : decode cX9_putInto 18 = .ok (.aload_n 3, 1) := by decide +kernel
theorem dX9_putInto_19 : decode cX9_putInto 19 = .ok (.iload 5, 2) := by decide +kernel
theorem dX9_putInto_21 : decode cX9_putInto 21 = .ok (.invokevirtual 121, 3) := by decide +kernel
theorem dX9_putInto_24 : decode cX9_putInto 24 = .ok (.imul, 1) := by decide +kernel
theorem dX9_putInto_25 : decode cX9_putInto 25 = .ok (.bipush 40, 2) := by decide +kernel
theorem dX9_putInto_27 : decode cX9_putInto 27 = .ok (.if_icmp .le 5, 3) := by decide +kernel
theorem dX9_putInto_30 : decode cX9_putInto 30 = .ok (.aconst_null, 1) := by decide +kernel
theorem dX9_putInto_31 : decode cX9_putInto 31 = .ok (.areturn, 1) := by decide +kernel
theorem dX9_putInto_32 : decode cX9_putInto 32 = .ok (.iinc 5 1, 3) := by decide +kernel
theorem dX9_putInto_35 : decode cX9_putInto 35 = .ok (.goto (-25), 3) := by decide +kernel
theorem dX9_putInto_38 : decode cX9_putInto 38 = .ok (.aload_n 0, 1) := by decide +kernel
theorem dX9_putInto_39 : decode cX9_putInto 39 = .ok (.getfield 34, 3) := by decide +kernel
theorem dX9_putInto_42 : decode cX9_putInto 42 = .ok (.aload_n 1, 1) := by decide +kernel
theorem dX9_putInto_43 : decode cX9_putInto 43 = .ok (.iload_n 2, 1) := by decide +kernel
theorem dX9_putInto_44 : decode cX9_putInto 44 = .ok (.aload_n 3, 1) := by decide +kernel
theorem dX9_putInto_45 : decode cX9_putInto 45 = .ok (.iconst 0, 1) := by decide +kernel
theorem dX9_putInto_46 : decode cX9_putInto 46 = .ok (.invokestatic 135, 3) := by decide +kernel
theorem dX9_putInto_49 : decode cX9_putInto 49 = .ok (.aload_n 1, 1) := by decide +kernel
theorem dX9_putInto_50 : decode cX9_putInto 50 = .ok (.iload_n 2, 1) := by decide +kernel
theorem dX9_putInto_51 : decode cX9_putInto 51 = .ok (.aload_n 3, 1) := by decide +kernel
theorem dX9_putInto_52 : decode cX9_putInto 52 = .ok (.iconst 1, 1) := by decide +kernel
theorem dX9_putInto_53 : decode cX9_putInto 53 = .ok (.invokestatic 135, 3) := by decide +kernel
theorem dX9_putInto_56 : decode cX9_putInto 56 = .ok (.aload_n 1, 1) := by decide +kernel
theorem dX9_putInto_57 : decode cX9_putInto 57 = .ok (.iload_n 2, 1) := by decide +kernel
theorem dX9_putInto_58 : decode cX9_putInto 58 = .ok (.aload_n 3, 1) := by decide +kernel
theorem dX9_putInto_59 : decode cX9_putInto 59 = .ok (.iconst 2, 1) := by decide +kernel
theorem dX9_putInto_60 : decode cX9_putInto 60 = .ok (.invokestatic 135, 3) := by decide +kernel
theorem dX9_putInto_63 : decode cX9_putInto 63 = .ok (.invokevirtual 85, 3) := by decide +kernel
theorem dX9_putInto_66 : decode cX9_putInto 66 = .ok (.aload_n 0, 1) := by decide +kernel
theorem dX9_putInto_67 : decode cX9_putInto 67 = .ok (.getfield 24, 3) := by decide +kernel
theorem dX9_putInto_70 : decode cX9_putInto 70 = .ok (.invokevirtual 57, 3) := by decide +kernel
theorem dX9_putInto_73 : decode cX9_putInto 73 = .ok (.aload_n 0, 1) := by decide +kernel
theorem dX9_putInto_74 : decode cX9_putInto 74 = .ok (.getfield 24, 3) := by decide +kernel
theorem dX9_putInto_77 : decode cX9_putInto 77 = .ok (.iconst 0, 1) := by decide +kernel
theorem dX9_putInto_78 : decode cX9_putInto 78 = .ok (.iconst 1, 1) := by decide +kernel
theorem dX9_putInto_79 : decode cX9_putInto 79 = .ok (.invokevirtual 69, 3) := by decide +kernel
theorem dX9_putInto_82 : decode cX9_putInto 82 = .ok (.iconst 0, 1) := by decide +kernel
theorem dX9_putInto_83 : decode cX9_putInto 83 = .ok (.istore 5, 2) := by decide +kernel
theorem dX9_putInto_85 : decode cX9_putInto 85 = .ok (.iload 5, 2) := by decide +kernel
theorem dX9_putInto_87 : decode cX9_putInto 87 = .ok (.iload 4, 2) := by decide +kernel
theorem dX9_putInto_89 : decode cX9_putInto 89 = .ok (.if_icmp .gt 40, 3) := by decide +kernel
theorem dX9_putInto_92 : decode cX9_putInto 92 = .ok (.iload 5, 2) := by decide +kernel
theorem dX9_putInto_94 : decode cX9_putInto 94 = .ok (.ifCond .le 21, 3) := by decide +kernel
theorem dX9_putInto_97 : decode cX9_putInto 97 = .ok (.aload_n 0, 1) := by decide +kernel
theorem dX9_putInto_98 : decode cX9_putInto 98 = .ok (.aload_n 0, 1) := by decide +kernel
theorem dX9_putInto_99 : decode cX9_putInto 99 = .ok (.getfield 24, 3) := by decide +kernel
theorem dX9_putInto_102 : decode cX9_putInto 102 = .ok (.aload_n 3, 1) := by decide +kernel
theorem dX9_putInto_103 : decode cX9_putInto 103 = .ok (.aload_n 0, 1) := by decide +kernel
theorem dX9_putInto_104 : decode cX9_putInto 104 = .ok (.getfield 24, 3) := by decide +kernel
theorem dX9_putInto_107 : decode cX9_putInto 107 = .ok (.invokevirtual 77, 3) := by decide +kernel
theorem dX9_putInto_110 : decode cX9_putInto 110 = .ok (.ifCond .ne 5, 3) := by decide +kernel
theorem dX9_putInto_113 : decode cX9_putInto 113 = .ok (.aconst_null, 1) := by decide +kernel
theorem dX9_putInto_114 : decode cX9_putInto 114 = .ok (.areturn, 1) := by decide +kernel
theorem dX9_putInto_115 : decode cX9_putInto 115 = .ok (.aload_n 0, 1) := by decide +kernel
theorem dX9_putInto_116 : decode cX9_putInto 116 = .ok (.aload_n 1, 1) := by decide +kernel
theorem dX9_putInto_117 : decode cX9_putInto 117 = .ok (.iload_n 2, 1) := by decide +kernel
theorem dX9_putInto_118 : decode cX9_putInto 118 = .ok (.iload 5, 2) := by decide +kernel
theorem dX9_putInto_120 : decode cX9_putInto 120 = .ok (.invokevirtual 139, 3) := by decide +kernel
theorem dX9_putInto_123 : decode cX9_putInto 123 = .ok (.iinc 5 1, 3) := by decide +kernel
theorem dX9_putInto_126 : decode cX9_putInto 126 = .ok (.goto (-41), 3) := by decide +kernel
theorem dX9_putInto_129 : decode cX9_putInto 129 = .ok (.aload_n 0, 1) := by decide +kernel
theorem dX9_putInto_130 : decode cX9_putInto 130 = .ok (.getfield 34, 3) := by decide +kernel
theorem dX9_putInto_133 : decode cX9_putInto 133 = .ok (.aload_n 0, 1) := by decide +kernel
theorem dX9_putInto_134 : decode cX9_putInto 134 = .ok (.getfield 20, 3) := by decide +kernel
theorem dX9_putInto_137 : decode cX9_putInto 137 = .ok (.aload_n 0, 1) := by decide +kernel
theorem dX9_putInto_138 : decode cX9_putInto 138 = .ok (.getfield 9, 3) := by decide +kernel
theorem dX9_putInto_141 : decode cX9_putInto 141 = .ok (.invokevirtual 100, 3) := by decide +kernel
theorem dX9_putInto_144 : decode cX9_putInto 144 = .ok (.aload_n 0, 1) := by decide +kernel
theorem dX9_putInto_145 : decode cX9_putInto 145 = .ok (.getfield 20, 3) := by decide +kernel
theorem dX9_putInto_148 : decode cX9_putInto 148 = .ok (.invokevirtual 73, 3) := by decide +kernel
theorem dX9_putInto_151 : decode cX9_putInto 151 = .ok (.areturn, 1) := by decide +kernel
theorem dX9_putRoom_0 : decode cX9_putRoom 0 = .ok (.aload_n 2, 1) := by decide +kernel
theorem dX9_putRoom_1 : decode cX9_putRoom 1 = .ok (.iload_n 3, 1) := by decide +kernel
theorem dX9_putRoom_2 : decode cX9_putRoom 2 = .ok (.invokevirtual 121, 3) := by decide +kernel
theorem dX9_putRoom_5 : decode cX9_putRoom 5 = .ok (.istore 4, 2) := by decide +kernel
theorem dX9_putRoom_7 : decode cX9_putRoom 7 = .ok (.iconst 0, 1) := by decide +kernel
theorem dX9_putRoom_8 : decode cX9_putRoom 8 = .ok (.istore 5, 2) := by decide +kernel
theorem dX9_putRoom_10 : decode cX9_putRoom 10 = .ok (.iconst 0, 1) := by decide +kernel
theorem dX9_putRoom_11 : decode cX9_putRoom 11 = .ok (.istore 6, 2) := by decide +kernel
theorem dX9_putRoom_13 : decode cX9_putRoom 13 = .ok (.iload 6, 2) := by decide +kernel
theorem dX9_putRoom_15 : decode cX9_putRoom 15 = .ok (.aload_n 0, 1) := by decide +kernel
theorem dX9_putRoom_16 : decode cX9_putRoom 16 = .ok (.getfield 60, 3) := by decide +kernel
theorem dX9_putRoom_19 : decode cX9_putRoom 19 = .ok (.if_icmp .ge 55, 3) := by decide +kernel
theorem dX9_putRoom_22 : decode cX9_putRoom 22 = .ok (.iload_n 3, 1) := by decide +kernel
theorem dX9_putRoom_23 : decode cX9_putRoom 23 = .ok (.iload_n 1, 1) := by decide +kernel
theorem dX9_putRoom_24 : decode cX9_putRoom 24 = .ok (.if_icmp .ne 7, 3) := by decide +kernel
theorem dX9_putRoom_27 : decode cX9_putRoom 27 = .ok (.iconst 0, 1) := by decide +kernel
theorem dX9_putRoom_28 : decode cX9_putRoom 28 = .ok (.goto 14, 3) := by decide +kernel
theorem dX9_putRoom_31 : decode cX9_putRoom 31 = .ok (.aload_n 0, 1) := by decide +kernel
theorem dX9_putRoom_32 : decode cX9_putRoom 32 = .ok (.getfield 63, 3) := by decide +kernel
theorem dX9_putRoom_35 : decode cX9_putRoom 35 = .ok (.iload 6, 2) := by decide +kernel
theorem dX9_putRoom_37 : decode cX9_putRoom 37 = .ok (.iaload, 1) := by decide +kernel
theorem dX9_putRoom_38 : decode cX9_putRoom 38 = .ok (.iload_n 3, 1) := by decide +kernel
theorem dX9_putRoom_39 : decode cX9_putRoom 39 = .ok (.invokestatic 111, 3) := by decide +kernel
theorem dX9_putRoom_42 : decode cX9_putRoom 42 = .ok (.istore 7, 2) := by decide +kernel
theorem dX9_putRoom_44 : decode cX9_putRoom 44 = .ok (.iload 5, 2) := by decide +kernel
theorem dX9_putRoom_46 : decode cX9_putRoom 46 = .ok (.iload 7, 2) := by decide +kernel
theorem dX9_putRoom_48 : decode cX9_putRoom 48 = .ok (.iload 4, 2) := by decide +kernel
theorem dX9_putRoom_50 : decode cX9_putRoom 50 = .ok (.aload_n 0, 1) := by decide +kernel
theorem dX9_putRoom_51 : decode cX9_putRoom 51 = .ok (.getfield 63, 3) := by decide +kernel
theorem dX9_putRoom_54 : decode cX9_putRoom 54 = .ok (.iload 6, 2) := by decide +kernel
theorem dX9_putRoom_56 : decode cX9_putRoom 56 = .ok (.iaload, 1) := by decide +kernel
theorem dX9_putRoom_57 : decode cX9_putRoom 57 = .ok (.iload_n 1, 1) := by decide +kernel
theorem dX9_putRoom_58 : decode cX9_putRoom 58 = .ok (.invokestatic 111, 3) := by decide +kernel
theorem dX9_putRoom_61 : decode cX9_putRoom 61 = .ok (.imul, 1) := by decide +kernel
theorem dX9_putRoom_62 : decode cX9_putRoom 62 = .ok (.iadd, 1) := by decide +kernel
theorem dX9_putRoom_63 : decode cX9_putRoom 63 = .ok (.invokestatic 143, 3) := by decide +kernel
theorem dX9_putRoom_66 : decode cX9_putRoom 66 = .ok (.istore 5, 2) := by decide +kernel
theorem dX9_putRoom_68 : decode cX9_putRoom 68 = .ok (.iinc 6 1, 3) := by decide +kernel
theorem dX9_putRoom_71 : decode cX9_putRoom 71 = .ok (.goto (-58), 3) := by decide +kernel
theorem dX9_putRoom_74 : decode cX9_putRoom 74 = .ok (.iload 5, 2) := by decide +kernel
theorem dX9_putRoom_76 : decode cX9_putRoom 76 = .ok (.ireturn, 1) := by decide +kernel
theorem dX9_addPut_0 : decode cX9_addPut 0 = .ok (.iload_n 3, 1) := by decide +kernel
theorem dX9_addPut_1 : decode cX9_addPut 1 = .ok (.iload_n 2, 1) := by decide +kernel
theorem dX9_addPut_2 : decode cX9_addPut 2 = .ok (.invokestatic 115, 3) := by decide +kernel
theorem dX9_addPut_5 : decode cX9_addPut 5 = .ok (.imul, 1) := by decide +kernel
theorem dX9_addPut_6 : decode cX9_addPut 6 = .ok (.istore 4, 2) := by decide +kernel
theorem dX9_addPut_8 : decode cX9_addPut 8 = .ok (.aload_n 0, 1) := by decide +kernel
theorem dX9_addPut_9 : decode cX9_addPut 9 = .ok (.aload_n 0, 1) := by decide +kernel
theorem dX9_addPut_10 : decode cX9_addPut 10 = .ok (.getfield 24, 3) := by decide +kernel
theorem dX9_addPut_13 : decode cX9_addPut 13 = .ok (.aload_n 0, 1) := by decide +kernel
theorem dX9_addPut_14 : decode cX9_addPut 14 = .ok (.getfield 34, 3) := by decide +kernel
theorem dX9_addPut_17 : decode cX9_addPut 17 = .ok (.invokevirtual 89, 3) := by decide +kernel
theorem dX9_addPut_20 : decode cX9_addPut 20 = .ok (.iconst 0, 1) := by decide +kernel
theorem dX9_addPut_21 : decode cX9_addPut 21 = .ok (.istore 5, 2) := by decide +kernel
theorem dX9_addPut_23 : decode cX9_addPut 23 = .ok (.iload 5, 2) := by decide +kernel
theorem dX9_addPut_25 : decode cX9_addPut 25 = .ok (.aload_n 1, 1) := by decide +kernel
theorem dX9_addPut_26 : decode cX9_addPut 26 = .ok (.getfield 60, 3) := by decide +kernel
theorem dX9_addPut_29 : decode cX9_addPut 29 = .ok (.if_icmp .ge 60, 3) := by decide +kernel
theorem dX9_addPut_32 : decode cX9_addPut 32 = .ok (.aload_n 1, 1) := by decide +kernel
theorem dX9_addPut_33 : decode cX9_addPut 33 = .ok (.getfield 63, 3) := by decide +kernel
theorem dX9_addPut_36 : decode cX9_addPut 36 = .ok (.iload 5, 2) := by decide +kernel
theorem dX9_addPut_38 : decode cX9_addPut 38 = .ok (.iaload, 1) := by decide +kernel
theorem dX9_addPut_39 : decode cX9_addPut 39 = .ok (.iload_n 2, 1) := by decide +kernel
theorem dX9_addPut_40 : decode cX9_addPut 40 = .ok (.invokestatic 111, 3) := by decide +kernel
theorem dX9_addPut_43 : decode cX9_addPut 43 = .ok (.iload_n 3, 1) := by decide +kernel
theorem dX9_addPut_44 : decode cX9_addPut 44 = .ok (.if_icmp .ne 39, 3) := by decide +kernel
theorem dX9_addPut_47 : decode cX9_addPut 47 = .ok (.aload_n 0, 1) := by decide +kernel
theorem dX9_addPut_48 : decode cX9_addPut 48 = .ok (.aload_n 0, 1) := by decide +kernel
theorem dX9_addPut_49 : decode cX9_addPut 49 = .ok (.getfield 34, 3) := by decide +kernel
theorem dX9_addPut_52 : decode cX9_addPut 52 = .ok (.aload_n 0, 1) := by decide +kernel
theorem dX9_addPut_53 : decode cX9_addPut 53 = .ok (.getfield 34, 3) := by decide +kernel
theorem dX9_addPut_56 : decode cX9_addPut 56 = .ok (.aload_n 1, 1) := by decide +kernel
theorem dX9_addPut_57 : decode cX9_addPut 57 = .ok (.getfield 63, 3) := by decide +kernel
theorem dX9_addPut_60 : decode cX9_addPut 60 = .ok (.iload 5, 2) := by decide +kernel
theorem dX9_addPut_62 : decode cX9_addPut 62 = .ok (.iaload, 1) := by decide +kernel
theorem dX9_addPut_63 : decode cX9_addPut 63 = .ok (.iload 4, 2) := by decide +kernel
theorem dX9_addPut_65 : decode cX9_addPut 65 = .ok (.isub, 1) := by decide +kernel
theorem dX9_addPut_66 : decode cX9_addPut 66 = .ok (.invokevirtual 93, 3) := by decide +kernel
theorem dX9_addPut_69 : decode cX9_addPut 69 = .ok (.aload_n 1, 1) := by decide +kernel
theorem dX9_addPut_70 : decode cX9_addPut 70 = .ok (.getfield 66, 3) := by decide +kernel
theorem dX9_addPut_73 : decode cX9_addPut 73 = .ok (.iload 5, 2) := by decide +kernel
theorem dX9_addPut_75 : decode cX9_addPut 75 = .ok (.iaload, 1) := by decide +kernel
theorem dX9_addPut_76 : decode cX9_addPut 76 = .ok (.aload_n 0, 1) := by decide +kernel
theorem dX9_addPut_77 : decode cX9_addPut 77 = .ok (.getfield 24, 3) := by decide +kernel
theorem dX9_addPut_80 : decode cX9_addPut 80 = .ok (.invokevirtual 96, 3) := by decide +kernel
theorem dX9_addPut_83 : decode cX9_addPut 83 = .ok (.iinc 5 1, 3) := by decide +kernel
theorem dX9_addPut_86 : decode cX9_addPut 86 = .ok (.goto (-63), 3) := by decide +kernel
theorem dX9_addPut_89 : decode cX9_addPut 89 = .ok (.return_, 1) := by decide +kernel
theorem dX9_common_0 : decode cX9_common 0 = .ok (.aload_n 0, 1) := by decide +kernel
theorem dX9_common_1 : decode cX9_common 1 = .ok (.getfield 44, 3) := by decide +kernel
theorem dX9_common_4 : decode cX9_common 4 = .ok (.astore_n 3, 1) := by decide +kernel
theorem dX9_common_5 : decode cX9_common 5 = .ok (.aload_n 0, 1) := by decide +kernel
theorem dX9_common_6 : decode cX9_common 6 = .ok (.getfield 47, 3) := by decide +kernel
theorem dX9_common_9 : decode cX9_common 9 = .ok (.astore 4, 2) := by decide +kernel
theorem dX9_common_11 : decode cX9_common 11 = .ok (.aload_n 1, 1) := by decide +kernel
theorem dX9_common_12 : decode cX9_common 12 = .ok (.aload_n 3, 1) := by decide +kernel
theorem dX9_common_13 : decode cX9_common 13 = .ok (.invokestatic 146, 3) := by decide +kernel
theorem dX9_common_16 : decode cX9_common 16 = .ok (.istore 5, 2) := by decide +kernel
theorem dX9_common_18 : decode cX9_common 18 = .ok (.aload_n 2, 1) := by decide +kernel
theorem dX9_common_19 : decode cX9_common 19 = .ok (.aload 4, 2) := by decide +kernel
theorem dX9_common_21 : decode cX9_common 21 = .ok (.invokestatic 146, 3) := by decide +kernel
theorem dX9_common_24 : decode cX9_common 24 = .ok (.istore 6, 2) := by decide +kernel
theorem dX9_common_26 : decode cX9_common 26 = .ok (.iconst 0, 1) := by decide +kernel
theorem dX9_common_27 : decode cX9_common 27 = .ok (.istore 7, 2) := by decide +kernel
theorem dX9_common_29 : decode cX9_common 29 = .ok (.iload 7, 2) := by decide +kernel
theorem dX9_common_31 : decode cX9_common 31 = .ok (.bipush 82, 2) := by decide +kernel
theorem dX9_common_33 : decode cX9_common 33 = .ok (.if_icmp .gt 45, 3) := by decide +kernel
theorem dX9_common_36 : decode cX9_common 36 = .ok (.iload 6, 2) := by decide +kernel
theorem dX9_common_38 : decode cX9_common 38 = .ok (.ifCond .lt 40, 3) := by decide +kernel
theorem dX9_common_41 : decode cX9_common 41 = .ok (.aload_n 0, 1) := by decide +kernel
theorem dX9_common_42 : decode cX9_common 42 = .ok (.aload_n 3, 1) := by decide +kernel
theorem dX9_common_43 : decode cX9_common 43 = .ok (.iload 5, 2) := by decide +kernel
theorem dX9_common_45 : decode cX9_common 45 = .ok (.aload 4, 2) := by decide +kernel
theorem dX9_common_47 : decode cX9_common 47 = .ok (.iload 6, 2) := by decide +kernel
theorem dX9_common_49 : decode cX9_common 49 = .ok (.invokevirtual 150, 3) := by decide +kernel
theorem dX9_common_52 : decode cX9_common 52 = .ok (.istore 8, 2) := by decide +kernel
theorem dX9_common_54 : decode cX9_common 54 = .ok (.aload_n 3, 1) := by decide +kernel
theorem dX9_common_55 : decode cX9_common 55 = .ok (.astore 9, 2) := by decide +kernel
theorem dX9_common_57 : decode cX9_common 57 = .ok (.aload 4, 2) := by decide +kernel
theorem dX9_common_59 : decode cX9_common 59 = .ok (.astore_n 3, 1) := by decide +kernel
theorem dX9_common_60 : decode cX9_common 60 = .ok (.aload 9, 2) := by decide +kernel
theorem dX9_common_62 : decode cX9_common 62 = .ok (.astore 4, 2) := by decide +kernel
theorem dX9_common_64 : decode cX9_common 64 = .ok (.iload 6, 2) := by decide +kernel
theorem dX9_common_66 : decode cX9_common 66 = .ok (.istore 5, 2) := by decide +kernel
theorem dX9_common_68 : decode cX9_common 68 = .ok (.iload 8, 2) := by decide +kernel
theorem dX9_common_70 : decode cX9_common 70 = .ok (.istore 6, 2) := by decide +kernel
theorem dX9_common_72 : decode cX9_common 72 = .ok (.iinc 7 1, 3) := by decide +kernel
theorem dX9_common_75 : decode cX9_common 75 = .ok (.goto (-46), 3) := by decide +kernel
theorem dX9_common_78 : decode cX9_common 78 = .ok (.aload_n 0, 1) := by decide +kernel
theorem dX9_common_79 : decode cX9_common 79 = .ok (.getfield 20, 3) := by decide +kernel
theorem dX9_common_82 : decode cX9_common 82 = .ok (.invokevirtual 57, 3) := by decide +kernel
theorem dX9_common_85 : decode cX9_common 85 = .ok (.iload 5, 2) := by decide +kernel
theorem dX9_common_87 : decode cX9_common 87 = .ok (.ifCond .ge 7, 3) := by decide +kernel
theorem dX9_common_90 : decode cX9_common 90 = .ok (.iconst 0, 1) := by decide +kernel
theorem dX9_common_91 : decode cX9_common 91 = .ok (.goto 11, 3) := by decide +kernel
theorem dX9_common_94 : decode cX9_common 94 = .ok (.aload_n 0, 1) := by decide +kernel
theorem dX9_common_95 : decode cX9_common 95 = .ok (.aload_n 3, 1) := by decide +kernel
theorem dX9_common_96 : decode cX9_common 96 = .ok (.iload 5, 2) := by decide +kernel
theorem dX9_common_98 : decode cX9_common 98 = .ok (.iaload, 1) := by decide +kernel
theorem dX9_common_99 : decode cX9_common 99 = .ok (.invokevirtual 154, 3) := by decide +kernel
theorem dX9_common_102 : decode cX9_common 102 = .ok (.istore 7, 2) := by decide +kernel
theorem dX9_common_104 : decode cX9_common 104 = .ok (.iload 5, 2) := by decide +kernel
theorem dX9_common_106 : decode cX9_common 106 = .ok (.istore 8, 2) := by decide +kernel
theorem dX9_common_108 : decode cX9_common 108 = .ok (.iload 8, 2) := by decide +kernel
theorem dX9_common_110 : decode cX9_common 110 = .ok (.ifCond .lt 35, 3) := by decide +kernel
theorem dX9_common_113 : decode cX9_common 113 = .ok (.aload_n 0, 1) := by decide +kernel
theorem dX9_common_114 : decode cX9_common 114 = .ok (.getfield 20, 3) := by decide +kernel
theorem dX9_common_117 : decode cX9_common 117 = .ok (.iload 8, 2) := by decide +kernel
theorem dX9_common_119 : decode cX9_common 119 = .ok (.iconst 0, 1) := by decide +kernel
theorem dX9_common_120 : decode cX9_common 120 = .ok (.iconst 0, 1) := by decide +kernel
theorem dX9_common_121 : decode cX9_common 121 = .ok (.invokestatic 157, 3) := by decide +kernel
theorem dX9_common_124 : decode cX9_common 124 = .ok (.aload_n 3, 1) := by decide +kernel
theorem dX9_common_125 : decode cX9_common 125 = .ok (.iload 8, 2) := by decide +kernel
theorem dX9_common_127 : decode cX9_common 127 = .ok (.iaload, 1) := by decide +kernel
theorem dX9_common_128 : decode cX9_common 128 = .ok (.iload 7, 2) := by decide +kernel
theorem dX9_common_130 : decode cX9_common 130 = .ok (.imul, 1) := by decide +kernel
theorem dX9_common_131 : decode cX9_common 131 = .ok (.aload_n 0, 1) := by decide +kernel
theorem dX9_common_132 : decode cX9_common 132 = .ok (.getfield 9, 3) := by decide +kernel
theorem dX9_common_135 : decode cX9_common 135 = .ok (.irem, 1) := by decide +kernel
theorem dX9_common_136 : decode cX9_common 136 = .ok (.invokevirtual 69, 3) := by decide +kernel
theorem dX9_common_139 : decode cX9_common 139 = .ok (.iinc 8 (-1), 3) := by decide +kernel
theorem dX9_common_142 : decode cX9_common 142 = .ok (.goto (-34), 3) := by decide +kernel
theorem dX9_common_145 : decode cX9_common 145 = .ok (.aload_n 0, 1) := by decide +kernel
theorem dX9_common_146 : decode cX9_common 146 = .ok (.getfield 20, 3) := by decide +kernel
theorem dX9_common_149 : decode cX9_common 149 = .ok (.invokevirtual 73, 3) := by decide +kernel
theorem dX9_common_152 : decode cX9_common 152 = .ok (.areturn, 1) := by decide +kernel
theorem dX9_layOut_0 : decode cX9_layOut 0 = .ok (.aload_n 1, 1) := by decide +kernel
theorem dX9_layOut_1 : decode cX9_layOut 1 = .ok (.iconst 0, 1) := by decide +kernel
theorem dX9_layOut_2 : decode cX9_layOut 2 = .ok (.invokestatic 161, 3) := by decide +kernel
theorem dX9_layOut_5 : decode cX9_layOut 5 = .ok (.iconst 0, 1) := by decide +kernel
theorem dX9_layOut_6 : decode cX9_layOut 6 = .ok (.istore_n 2, 1) := by decide +kernel
theorem dX9_layOut_7 : decode cX9_layOut 7 = .ok (.iload_n 2, 1) := by decide +kernel
theorem dX9_layOut_8 : decode cX9_layOut 8 = .ok (.aload_n 0, 1) := by decide +kernel
theorem dX9_layOut_9 : decode cX9_layOut 9 = .ok (.getfield 60, 3) := by decide +kernel
theorem dX9_layOut_12 : decode cX9_layOut 12 = .ok (.if_icmp .ge 27, 3) := by decide +kernel
theorem dX9_layOut_15 : decode cX9_layOut 15 = .ok (.aload_n 1, 1) := by decide +kernel
theorem dX9_layOut_16 : decode cX9_layOut 16 = .ok (.aload_n 0, 1) := by decide +kernel
theorem dX9_layOut_17 : decode cX9_layOut 17 = .ok (.getfield 63, 3) := by decide +kernel
theorem dX9_layOut_20 : decode cX9_layOut 20 = .ok (.iload_n 2, 1) := by decide +kernel
theorem dX9_layOut_21 : decode cX9_layOut 21 = .ok (.iaload, 1) := by decide +kernel
theorem dX9_layOut_22 : decode cX9_layOut 22 = .ok (.iconst 0, 1) := by decide +kernel
theorem dX9_layOut_23 : decode cX9_layOut 23 = .ok (.invokestatic 111, 3) := by decide +kernel
theorem dX9_layOut_26 : decode cX9_layOut 26 = .ok (.aload_n 0, 1) := by decide +kernel
theorem dX9_layOut_27 : decode cX9_layOut 27 = .ok (.getfield 66, 3) := by decide +kernel
theorem dX9_layOut_30 : decode cX9_layOut 30 = .ok (.iload_n 2, 1) := by decide +kernel
theorem dX9_layOut_31 : decode cX9_layOut 31 = .ok (.iaload, 1) := by decide +kernel
theorem dX9_layOut_32 : decode cX9_layOut 32 = .ok (.iastore, 1) := by decide +kernel
theorem dX9_layOut_33 : decode cX9_layOut 33 = .ok (.iinc 2 1, 3) := by decide +kernel
theorem dX9_layOut_36 : decode cX9_layOut 36 = .ok (.goto (-29), 3) := by decide +kernel
theorem dX9_layOut_39 : decode cX9_layOut 39 = .ok (.aload_n 0, 1) := by decide +kernel
theorem dX9_layOut_40 : decode cX9_layOut 40 = .ok (.iconst 0, 1) := by decide +kernel
theorem dX9_layOut_41 : decode cX9_layOut 41 = .ok (.invokevirtual 81, 3) := by decide +kernel
theorem dX9_layOut_44 : decode cX9_layOut 44 = .ok (.ireturn, 1) := by decide +kernel
theorem dX9_takeRemainder_0 : decode cX9_takeRemainder 0 = .ok (.aload_n 0, 1) := by decide +kernel
theorem dX9_takeRemainder_1 : decode cX9_takeRemainder 1 = .ok (.aload_n 3, 1) := by decide +kernel
theorem dX9_takeRemainder_2 : decode cX9_takeRemainder 2 = .ok (.iload 4, 2) := by decide +kernel
theorem dX9_takeRemainder_4 : decode cX9_takeRemainder 4 = .ok (.iaload, 1) := by decide +kernel
theorem dX9_takeRemainder_5 : decode cX9_takeRemainder 5 = .ok (.invokevirtual 154, 3) := by decide +kernel
theorem dX9_takeRemainder_8 : decode cX9_takeRemainder 8 = .ok (.istore 5, 2) := by decide +kernel
theorem dX9_takeRemainder_10 : decode cX9_takeRemainder 10 = .ok (.iload_n 2, 1) := by decide +kernel
theorem dX9_takeRemainder_11 : decode cX9_takeRemainder 11 = .ok (.istore 6, 2) := by decide +kernel
theorem dX9_takeRemainder_13 : decode cX9_takeRemainder 13 = .ok (.iload 6, 2) := by decide +kernel
theorem dX9_takeRemainder_15 : decode cX9_takeRemainder 15 = .ok (.iload 4, 2) := by decide +kernel
theorem dX9_takeRemainder_17 : decode cX9_takeRemainder 17 = .ok (.if_icmp .lt 75, 3) := by decide +kernel
theorem dX9_takeRemainder_20 : decode cX9_takeRemainder 20 = .ok (.aload_n 0, 1) := by decide +kernel
theorem dX9_takeRemainder_21 : decode cX9_takeRemainder 21 = .ok (.getfield 9, 3) := by decide +kernel
theorem dX9_takeRemainder_24 : decode cX9_takeRemainder 24 = .ok (.aload_n 1, 1) := by decide +kernel
theorem dX9_takeRemainder_25 : decode cX9_takeRemainder 25 = .ok (.iload 6, 2) := by decide +kernel
theorem dX9_takeRemainder_27 : decode cX9_takeRemainder 27 = .ok (.iaload, 1) := by decide +kernel
theorem dX9_takeRemainder_28 : decode cX9_takeRemainder 28 = .ok (.iload 5, 2) := by decide +kernel
theorem dX9_takeRemainder_30 : decode cX9_takeRemainder 30 = .ok (.imul, 1) := by decide +kernel
theorem dX9_takeRemainder_31 : decode cX9_takeRemainder 31 = .ok (.aload_n 0, 1) := by decide +kernel
theorem dX9_takeRemainder_32 : decode cX9_takeRemainder 32 = .ok (.getfield 9, 3) := by decide +kernel
theorem dX9_takeRemainder_35 : decode cX9_takeRemainder 35 = .ok (.irem, 1) := by decide +kernel
theorem dX9_takeRemainder_36 : decode cX9_takeRemainder 36 = .ok (.isub, 1) := by decide +kernel
theorem dX9_takeRemainder_37 : decode cX9_takeRemainder 37 = .ok (.istore 7, 2) := by decide +kernel
theorem dX9_takeRemainder_39 : decode cX9_takeRemainder 39 = .ok (.iconst 0, 1) := by decide +kernel
theorem dX9_takeRemainder_40 : decode cX9_takeRemainder 40 = .ok (.istore 8, 2) := by decide +kernel
theorem dX9_takeRemainder_42 : decode cX9_takeRemainder 42 = .ok (.iload 8, 2) := by decide +kernel
theorem dX9_takeRemainder_44 : decode cX9_takeRemainder 44 = .ok (.iload 4, 2) := by decide +kernel
theorem dX9_takeRemainder_46 : decode cX9_takeRemainder 46 = .ok (.if_icmp .gt 40, 3) := by decide +kernel
theorem dX9_takeRemainder_49 : decode cX9_takeRemainder 49 = .ok (.iload 6, 2) := by decide +kernel
theorem dX9_takeRemainder_51 : decode cX9_takeRemainder 51 = .ok (.iload 4, 2) := by decide +kernel
theorem dX9_takeRemainder_53 : decode cX9_takeRemainder 53 = .ok (.isub, 1) := by decide +kernel
theorem dX9_takeRemainder_54 : decode cX9_takeRemainder 54 = .ok (.iload 8, 2) := by decide +kernel
theorem dX9_takeRemainder_56 : decode cX9_takeRemainder 56 = .ok (.iadd, 1) := by decide +kernel
theorem dX9_takeRemainder_57 : decode cX9_takeRemainder 57 = .ok (.istore 9, 2) := by decide +kernel
theorem dX9_takeRemainder_59 : decode cX9_takeRemainder 59 = .ok (.aload_n 1, 1) := by decide +kernel
theorem dX9_takeRemainder_60 : decode cX9_takeRemainder 60 = .ok (.iload 9, 2) := by decide +kernel
theorem dX9_takeRemainder_62 : decode cX9_takeRemainder 62 = .ok (.aload_n 1, 1) := by decide +kernel
theorem dX9_takeRemainder_63 : decode cX9_takeRemainder 63 = .ok (.iload 9, 2) := by decide +kernel
theorem dX9_takeRemainder_65 : decode cX9_takeRemainder 65 = .ok (.iaload, 1) := by decide +kernel
theorem dX9_takeRemainder_66 : decode cX9_takeRemainder 66 = .ok (.iload 7, 2) := by decide +kernel
theorem dX9_takeRemainder_68 : decode cX9_takeRemainder 68 = .ok (.aload_n 3, 1) := by decide +kernel
theorem dX9_takeRemainder_69 : decode cX9_takeRemainder 69 = .ok (.iload 8, 2) := by decide +kernel
theorem dX9_takeRemainder_71 : decode cX9_takeRemainder 71 = .ok (.iaload, 1) := by decide +kernel
theorem dX9_takeRemainder_72 : decode cX9_takeRemainder 72 = .ok (.imul, 1) := by decide +kernel
theorem dX9_takeRemainder_73 : decode cX9_takeRemainder 73 = .ok (.iadd, 1) := by decide +kernel
theorem dX9_takeRemainder_74 : decode cX9_takeRemainder 74 = .ok (.aload_n 0, 1) := by decide +kernel
theorem dX9_takeRemainder_75 : decode cX9_takeRemainder 75 = .ok (.getfield 9, 3) := by decide +kernel
theorem dX9_takeRemainder_78 : decode cX9_takeRemainder 78 = .ok (.irem, 1) := by decide +kernel
theorem dX9_takeRemainder_79 : decode cX9_takeRemainder 79 = .ok (.iastore, 1) := by decide +kernel
theorem dX9_takeRemainder_80 : decode cX9_takeRemainder 80 = .ok (.iinc 8 1, 3) := by decide +kernel
theorem dX9_takeRemainder_83 : decode cX9_takeRemainder 83 = .ok (.goto (-41), 3) := by decide +kernel
theorem dX9_takeRemainder_86 : decode cX9_takeRemainder 86 = .ok (.iinc 6 (-1), 3) := by decide +kernel
theorem dX9_takeRemainder_89 : decode cX9_takeRemainder 89 = .ok (.goto (-76), 3) := by decide +kernel
theorem dX9_takeRemainder_92 : decode cX9_takeRemainder 92 = .ok (.iload_n 2, 1) := by decide +kernel
theorem dX9_takeRemainder_93 : decode cX9_takeRemainder 93 = .ok (.iload 4, 2) := by decide +kernel
theorem dX9_takeRemainder_95 : decode cX9_takeRemainder 95 = .ok (.iconst 1, 1) := by decide +kernel
theorem dX9_takeRemainder_96 : decode cX9_takeRemainder 96 = .ok (.isub, 1) := by decide +kernel
theorem dX9_takeRemainder_97 : decode cX9_takeRemainder 97 = .ok (.invokestatic 124, 3) := by decide +kernel
theorem dX9_takeRemainder_100 : decode cX9_takeRemainder 100 = .ok (.istore 6, 2) := by decide +kernel
theorem dX9_takeRemainder_102 : decode cX9_takeRemainder 102 = .ok (.iload 6, 2) := by decide +kernel
theorem dX9_takeRemainder_104 : decode cX9_takeRemainder 104 = .ok (.ifCond .lt 16, 3) := by decide +kernel
theorem dX9_takeRemainder_107 : decode cX9_takeRemainder 107 = .ok (.aload_n 1, 1) := by decide +kernel
theorem dX9_takeRemainder_108 : decode cX9_takeRemainder 108 = .ok (.iload 6, 2) := by decide +kernel
theorem dX9_takeRemainder_110 : decode cX9_takeRemainder 110 = .ok (.iaload, 1) := by decide +kernel
theorem dX9_takeRemainder_111 : decode cX9_takeRemainder 111 = .ok (.ifCond .ne 9, 3) := by decide +kernel
theorem dX9_takeRemainder_114 : decode cX9_takeRemainder 114 = .ok (.iinc 6 (-1), 3) := by decide +kernel
theorem dX9_takeRemainder_117 : decode cX9_takeRemainder 117 = .ok (.goto (-15), 3) := by decide +kernel
theorem dX9_takeRemainder_120 : decode cX9_takeRemainder 120 = .ok (.iload 6, 2) := by decide +kernel
theorem dX9_takeRemainder_122 : decode cX9_takeRemainder 122 = .ok (.ireturn, 1) := by decide +kernel
theorem dX9_inverse_0 : decode cX9_inverse 0 = .ok (.iconst 1, 1) := by decide +kernel
theorem dX9_inverse_1 : decode cX9_inverse 1 = .ok (.istore_n 2, 1) := by decide +kernel
theorem dX9_inverse_2 : decode cX9_inverse 2 = .ok (.iload_n 2, 1) := by decide +kernel
theorem dX9_inverse_3 : decode cX9_inverse 3 = .ok (.aload_n 0, 1) := by decide +kernel
theorem dX9_inverse_4 : decode cX9_inverse 4 = .ok (.getfield 9, 3) := by decide +kernel
theorem dX9_inverse_7 : decode cX9_inverse 7 = .ok (.if_icmp .ge 23, 3) := by decide +kernel
theorem dX9_inverse_10 : decode cX9_inverse 10 = .ok (.iload_n 1, 1) := by decide +kernel
theorem dX9_inverse_11 : decode cX9_inverse 11 = .ok (.iload_n 2, 1) := by decide +kernel
theorem dX9_inverse_12 : decode cX9_inverse 12 = .ok (.imul, 1) := by decide +kernel
theorem dX9_inverse_13 : decode cX9_inverse 13 = .ok (.aload_n 0, 1) := by decide +kernel
theorem dX9_inverse_14 : decode cX9_inverse 14 = .ok (.getfield 9, 3) := by decide +kernel
theorem dX9_inverse_17 : decode cX9_inverse 17 = .ok (.irem, 1) := by decide +kernel
theorem dX9_inverse_18 : decode cX9_inverse 18 = .ok (.iconst 1, 1) := by decide +kernel
theorem dX9_inverse_19 : decode cX9_inverse 19 = .ok (.if_icmp .ne 5, 3) := by decide +kernel
theorem dX9_inverse_22 : decode cX9_inverse 22 = .ok (.iload_n 2, 1) := by decide +kernel
theorem dX9_inverse_23 : decode cX9_inverse 23 = .ok (.ireturn, 1) := by decide +kernel
theorem dX9_inverse_24 : decode cX9_inverse 24 = .ok (.iinc 2 1, 3) := by decide +kernel
theorem dX9_inverse_27 : decode cX9_inverse 27 = .ok (.goto (-25), 3) := by decide +kernel
theorem dX9_inverse_30 : decode cX9_inverse 30 = .ok (.iconst 0, 1) := by decide +kernel
theorem dX9_inverse_31 : decode cX9_inverse 31 = .ok (.ireturn, 1) := by decide +kernel
theorem dX9_fitTo_0 : decode cX9_fitTo 0 = .ok (.aload_n 0, 1) := by decide +kernel
theorem dX9_fitTo_1 : decode cX9_fitTo 1 = .ok (.getfield 20, 3) := by decide +kernel
theorem dX9_fitTo_4 : decode cX9_fitTo 4 = .ok (.invokevirtual 57, 3) := by decide +kernel
theorem dX9_fitTo_7 : decode cX9_fitTo 7 = .ok (.aload_n 0, 1) := by decide +kernel
theorem dX9_fitTo_8 : decode cX9_fitTo 8 = .ok (.getfield 9, 3) := by decide +kernel
theorem dX9_fitTo_11 : decode cX9_fitTo 11 = .ok (.iconst 1, 1) := by decide +kernel
theorem dX9_fitTo_12 : decode cX9_fitTo 12 = .ok (.isub, 1) := by decide +kernel
theorem dX9_fitTo_13 : decode cX9_fitTo 13 = .ok (.istore_n 2, 1) := by decide +kernel
theorem dX9_fitTo_14 : decode cX9_fitTo 14 = .ok (.iload_n 2, 1) := by decide +kernel
theorem dX9_fitTo_15 : decode cX9_fitTo 15 = .ok (.ifCond .le 83, 3) := by decide +kernel
theorem dX9_fitTo_18 : decode cX9_fitTo 18 = .ok (.iconst 0, 1) := by decide +kernel
theorem dX9_fitTo_19 : decode cX9_fitTo 19 = .ok (.istore_n 3, 1) := by decide +kernel
theorem dX9_fitTo_20 : decode cX9_fitTo 20 = .ok (.iconst 0, 1) := by decide +kernel
theorem dX9_fitTo_21 : decode cX9_fitTo 21 = .ok (.istore 4, 2) := by decide +kernel
theorem dX9_fitTo_23 : decode cX9_fitTo 23 = .ok (.iload 4, 2) := by decide +kernel
theorem dX9_fitTo_25 : decode cX9_fitTo 25 = .ok (.aload_n 0, 1) := by decide +kernel
theorem dX9_fitTo_26 : decode cX9_fitTo 26 = .ok (.getfield 9, 3) := by decide +kernel
theorem dX9_fitTo_29 : decode cX9_fitTo 29 = .ok (.if_icmp .ge 34, 3) := by decide +kernel
theorem dX9_fitTo_32 : decode cX9_fitTo 32 = .ok (.iload_n 3, 1) := by decide +kernel
theorem dX9_fitTo_33 : decode cX9_fitTo 33 = .ok (.aload_n 1, 1) := by decide +kernel
theorem dX9_fitTo_34 : decode cX9_fitTo 34 = .ok (.iload 4, 2) := by decide +kernel
theorem dX9_fitTo_36 : decode cX9_fitTo 36 = .ok (.iaload, 1) := by decide +kernel
theorem dX9_fitTo_37 : decode cX9_fitTo 37 = .ok (.iload 4, 2) := by decide +kernel
theorem dX9_fitTo_39 : decode cX9_fitTo 39 = .ok (.aload_n 0, 1) := by decide +kernel
theorem dX9_fitTo_40 : decode cX9_fitTo 40 = .ok (.getfield 9, 3) := by decide +kernel
theorem dX9_fitTo_43 : decode cX9_fitTo 43 = .ok (.iconst 1, 1) := by decide +kernel
theorem dX9_fitTo_44 : decode cX9_fitTo 44 = .ok (.isub, 1) := by decide +kernel
theorem dX9_fitTo_45 : decode cX9_fitTo 45 = .ok (.iload_n 2, 1) := by decide +kernel
theorem dX9_fitTo_46 : decode cX9_fitTo 46 = .ok (.isub, 1) := by decide +kernel
theorem dX9_fitTo_47 : decode cX9_fitTo 47 = .ok (.aload_n 0, 1) := by decide +kernel
theorem dX9_fitTo_48 : decode cX9_fitTo 48 = .ok (.getfield 9, 3) := by decide +kernel
theorem dX9_fitTo_51 : decode cX9_fitTo 51 = .ok (.invokestatic 167, 3) := by decide +kernel
theorem dX9_fitTo_54 : decode cX9_fitTo 54 = .ok (.imul, 1) := by decide +kernel
theorem dX9_fitTo_55 : decode cX9_fitTo 55 = .ok (.iadd, 1) := by decide +kernel
theorem dX9_fitTo_56 : decode cX9_fitTo 56 = .ok (.istore_n 3, 1) := by decide +kernel
theorem dX9_fitTo_57 : decode cX9_fitTo 57 = .ok (.iinc 4 1, 3) := by decide +kernel
theorem dX9_fitTo_60 : decode cX9_fitTo 60 = .ok (.goto (-37), 3) := by decide +kernel
theorem dX9_fitTo_63 : decode cX9_fitTo 63 = .ok (.aload_n 0, 1) := by decide +kernel
theorem dX9_fitTo_64 : decode cX9_fitTo 64 = .ok (.getfield 20, 3) := by decide +kernel
theorem dX9_fitTo_67 : decode cX9_fitTo 67 = .ok (.iload_n 2, 1) := by decide +kernel
theorem dX9_fitTo_68 : decode cX9_fitTo 68 = .ok (.iconst 0, 1) := by decide +kernel
theorem dX9_fitTo_69 : decode cX9_fitTo 69 = .ok (.iconst 0, 1) := by decide +kernel
theorem dX9_fitTo_70 : decode cX9_fitTo 70 = .ok (.invokestatic 157, 3) := by decide +kernel
theorem dX9_fitTo_73 : decode cX9_fitTo 73 = .ok (.aload_n 0, 1) := by decide +kernel
theorem dX9_fitTo_74 : decode cX9_fitTo 74 = .ok (.getfield 9, 3) := by decide +kernel
theorem dX9_fitTo_77 : decode cX9_fitTo 77 = .ok (.iload_n 3, 1) := by decide +kernel
theorem dX9_fitTo_78 : decode cX9_fitTo 78 = .ok (.aload_n 0, 1) := by decide +kernel
theorem dX9_fitTo_79 : decode cX9_fitTo 79 = .ok (.getfield 9, 3) := by decide +kernel
theorem dX9_fitTo_82 : decode cX9_fitTo 82 = .ok (.irem, 1) := by decide +kernel
theorem dX9_fitTo_83 : decode cX9_fitTo 83 = .ok (.isub, 1) := by decide +kernel
theorem dX9_fitTo_84 : decode cX9_fitTo 84 = .ok (.aload_n 0, 1) := by decide +kernel
theorem dX9_fitTo_85 : decode cX9_fitTo 85 = .ok (.getfield 9, 3) := by decide +kernel
theorem dX9_fitTo_88 : decode cX9_fitTo 88 = .ok (.irem, 1) := by decide +kernel
theorem dX9_fitTo_89 : decode cX9_fitTo 89 = .ok (.invokevirtual 69, 3) := by decide +kernel
theorem dX9_fitTo_92 : decode cX9_fitTo 92 = .ok (.iinc 2 (-1), 3) := by decide +kernel
theorem dX9_fitTo_95 : decode cX9_fitTo 95 = .ok (.goto (-81), 3) := by decide +kernel
theorem dX9_fitTo_98 : decode cX9_fitTo 98 = .ok (.aload_n 0, 1) := by decide +kernel
theorem dX9_fitTo_99 : decode cX9_fitTo 99 = .ok (.getfield 20, 3) := by decide +kernel
theorem dX9_fitTo_102 : decode cX9_fitTo 102 = .ok (.iconst 0, 1) := by decide +kernel
theorem dX9_fitTo_103 : decode cX9_fitTo 103 = .ok (.aload_n 1, 1) := by decide +kernel
theorem dX9_fitTo_104 : decode cX9_fitTo 104 = .ok (.iconst 0, 1) := by decide +kernel
theorem dX9_fitTo_105 : decode cX9_fitTo 105 = .ok (.iaload, 1) := by decide +kernel
theorem dX9_fitTo_106 : decode cX9_fitTo 106 = .ok (.invokevirtual 69, 3) := by decide +kernel
theorem dX9_fitTo_109 : decode cX9_fitTo 109 = .ok (.aload_n 0, 1) := by decide +kernel
theorem dX9_fitTo_110 : decode cX9_fitTo 110 = .ok (.getfield 20, 3) := by decide +kernel
theorem dX9_fitTo_113 : decode cX9_fitTo 113 = .ok (.invokevirtual 73, 3) := by decide +kernel
theorem dX9_fitTo_116 : decode cX9_fitTo 116 = .ok (.areturn, 1) := by decide +kernel
theorem dX9_raised_0 : decode cX9_raised 0 = .ok (.iconst 1, 1) := by decide +kernel
theorem dX9_raised_1 : decode cX9_raised 1 = .ok (.istore_n 3, 1) := by decide +kernel
theorem dX9_raised_2 : decode cX9_raised 2 = .ok (.iconst 0, 1) := by decide +kernel
theorem dX9_raised_3 : decode cX9_raised 3 = .ok (.istore 4, 2) := by decide +kernel
theorem dX9_raised_5 : decode cX9_raised 5 = .ok (.iload 4, 2) := by decide +kernel
theorem dX9_raised_7 : decode cX9_raised 7 = .ok (.iload_n 1, 1) := by decide +kernel
theorem dX9_raised_8 : decode cX9_raised 8 = .ok (.if_icmp .ge 15, 3) := by decide +kernel
theorem dX9_raised_11 : decode cX9_raised 11 = .ok (.iload_n 3, 1) := by decide +kernel
theorem dX9_raised_12 : decode cX9_raised 12 = .ok (.iload_n 0, 1) := by decide +kernel
theorem dX9_raised_13 : decode cX9_raised 13 = .ok (.imul, 1) := by decide +kernel
theorem dX9_raised_14 : decode cX9_raised 14 = .ok (.iload_n 2, 1) := by decide +kernel
theorem dX9_raised_15 : decode cX9_raised 15 = .ok (.irem, 1) := by decide +kernel
theorem dX9_raised_16 : decode cX9_raised 16 = .ok (.istore_n 3, 1) := by decide +kernel
theorem dX9_raised_17 : decode cX9_raised 17 = .ok (.iinc 4 1, 3) := by decide +kernel
theorem dX9_raised_20 : decode cX9_raised 20 = .ok (.goto (-15), 3) := by decide +kernel
theorem dX9_raised_23 : decode cX9_raised 23 = .ok (.iload_n 3, 1) := by decide +kernel
theorem dX9_raised_24 : decode cX9_raised 24 = .ok (.ireturn, 1) := by decide +kernel
theorem dX9_valueAt_0 : decode cX9_valueAt 0 = .ok (.bipush 41, 2) := by decide +kernel
theorem dX9_valueAt_2 : decode cX9_valueAt 2 = .ok (.istore 5, 2) := by decide +kernel
theorem dX9_valueAt_4 : decode cX9_valueAt 4 = .ok (.aload_n 0, 1) := by decide +kernel
theorem dX9_valueAt_5 : decode cX9_valueAt 5 = .ok (.iload_n 2, 1) := by decide +kernel
theorem dX9_valueAt_6 : decode cX9_valueAt 6 = .ok (.iconst 0, 1) := by decide +kernel
theorem dX9_valueAt_7 : decode cX9_valueAt 7 = .ok (.invokevirtual 170, 3) := by decide +kernel
theorem dX9_valueAt_10 : decode cX9_valueAt 10 = .ok (.aload_n 0, 1) := by decide +kernel
theorem dX9_valueAt_11 : decode cX9_valueAt 11 = .ok (.iload_n 3, 1) := by decide +kernel
theorem dX9_valueAt_12 : decode cX9_valueAt 12 = .ok (.iload 5, 2) := by decide +kernel
theorem dX9_valueAt_14 : decode cX9_valueAt 14 = .ok (.invokevirtual 170, 3) := by decide +kernel
theorem dX9_valueAt_17 : decode cX9_valueAt 17 = .ok (.aload_n 0, 1) := by decide +kernel
theorem dX9_valueAt_18 : decode cX9_valueAt 18 = .ok (.iload 4, 2) := by decide +kernel
theorem dX9_valueAt_20 : decode cX9_valueAt 20 = .ok (.iconst 2, 1) := by decide +kernel
theorem dX9_valueAt_21 : decode cX9_valueAt 21 = .ok (.iload 5, 2) := by decide +kernel
theorem dX9_valueAt_23 : decode cX9_valueAt 23 = .ok (.imul, 1) := by decide +kernel
theorem dX9_valueAt_24 : decode cX9_valueAt 24 = .ok (.invokevirtual 170, 3) := by decide +kernel
theorem dX9_valueAt_27 : decode cX9_valueAt 27 = .ok (.iconst 0, 1) := by decide +kernel
theorem dX9_valueAt_28 : decode cX9_valueAt 28 = .ok (.istore 6, 2) := by decide +kernel
theorem dX9_valueAt_30 : decode cX9_valueAt 30 = .ok (.iconst 0, 1) := by decide +kernel
theorem dX9_valueAt_31 : decode cX9_valueAt 31 = .ok (.istore 7, 2) := by decide +kernel
theorem dX9_valueAt_33 : decode cX9_valueAt 33 = .ok (.iload 7, 2) := by decide +kernel
theorem dX9_valueAt_35 : decode cX9_valueAt 35 = .ok (.aload_n 1, 1) := by decide +kernel
theorem dX9_valueAt_36 : decode cX9_valueAt 36 = .ok (.getfield 60, 3) := by decide +kernel
theorem dX9_valueAt_39 : decode cX9_valueAt 39 = .ok (.if_icmp .ge 86, 3) := by decide +kernel
theorem dX9_valueAt_42 : decode cX9_valueAt 42 = .ok (.aload_n 1, 1) := by decide +kernel
theorem dX9_valueAt_43 : decode cX9_valueAt 43 = .ok (.getfield 63, 3) := by decide +kernel
theorem dX9_valueAt_46 : decode cX9_valueAt 46 = .ok (.iload 7, 2) := by decide +kernel
theorem dX9_valueAt_48 : decode cX9_valueAt 48 = .ok (.iaload, 1) := by decide +kernel
theorem dX9_valueAt_49 : decode cX9_valueAt 49 = .ok (.istore 8, 2) := by decide +kernel
theorem dX9_valueAt_51 : decode cX9_valueAt 51 = .ok (.aload_n 0, 1) := by decide +kernel
theorem dX9_valueAt_52 : decode cX9_valueAt 52 = .ok (.getfield 41, 3) := by decide +kernel
theorem dX9_valueAt_55 : decode cX9_valueAt 55 = .ok (.iload 8, 2) := by decide +kernel
theorem dX9_valueAt_57 : decode cX9_valueAt 57 = .ok (.iconst 0, 1) := by decide +kernel
theorem dX9_valueAt_58 : decode cX9_valueAt 58 = .ok (.invokestatic 111, 3) := by decide +kernel
theorem dX9_valueAt_61 : decode cX9_valueAt 61 = .ok (.iaload, 1) := by decide +kernel
theorem dX9_valueAt_62 : decode cX9_valueAt 62 = .ok (.istore 9, 2) := by decide +kernel
theorem dX9_valueAt_64 : decode cX9_valueAt 64 = .ok (.aload_n 0, 1) := by decide +kernel
theorem dX9_valueAt_65 : decode cX9_valueAt 65 = .ok (.getfield 41, 3) := by decide +kernel
theorem dX9_valueAt_68 : decode cX9_valueAt 68 = .ok (.iload 5, 2) := by decide +kernel
theorem dX9_valueAt_70 : decode cX9_valueAt 70 = .ok (.iload 8, 2) := by decide +kernel
theorem dX9_valueAt_72 : decode cX9_valueAt 72 = .ok (.iconst 1, 1) := by decide +kernel
theorem dX9_valueAt_73 : decode cX9_valueAt 73 = .ok (.invokestatic 111, 3) := by decide +kernel
theorem dX9_valueAt_76 : decode cX9_valueAt 76 = .ok (.iadd, 1) := by decide +kernel
theorem dX9_valueAt_77 : decode cX9_valueAt 77 = .ok (.iaload, 1) := by decide +kernel
theorem dX9_valueAt_78 : decode cX9_valueAt 78 = .ok (.istore 10, 2) := by decide +kernel
theorem dX9_valueAt_80 : decode cX9_valueAt 80 = .ok (.aload_n 0, 1) := by decide +kernel
theorem dX9_valueAt_81 : decode cX9_valueAt 81 = .ok (.getfield 41, 3) := by decide +kernel
theorem dX9_valueAt_84 : decode cX9_valueAt 84 = .ok (.iconst 2, 1) := by decide +kernel
theorem dX9_valueAt_85 : decode cX9_valueAt 85 = .ok (.iload 5, 2) := by decide +kernel
theorem dX9_valueAt_87 : decode cX9_valueAt 87 = .ok (.imul, 1) := by decide +kernel
theorem dX9_valueAt_88 : decode cX9_valueAt 88 = .ok (.iload 8, 2) := by decide +kernel
theorem dX9_valueAt_90 : decode cX9_valueAt 90 = .ok (.iconst 2, 1) := by decide +kernel
theorem dX9_valueAt_91 : decode cX9_valueAt 91 = .ok (.invokestatic 111, 3) := by decide +kernel
theorem dX9_valueAt_94 : decode cX9_valueAt 94 = .ok (.iadd, 1) := by decide +kernel
theorem dX9_valueAt_95 : decode cX9_valueAt 95 = .ok (.iaload, 1) := by decide +kernel
theorem dX9_valueAt_96 : decode cX9_valueAt 96 = .ok (.istore 11, 2) := by decide +kernel
theorem dX9_valueAt_98 : decode cX9_valueAt 98 = .ok (.iload 6, 2) := by decide +kernel
theorem dX9_valueAt_100 : decode cX9_valueAt 100 = .ok (.aload_n 1, 1) := by decide +kernel
theorem dX9_valueAt_101 : decode cX9_valueAt 101 = .ok (.getfield 66, 3) := by decide +kernel
theorem dX9_valueAt_104 : decode cX9_valueAt 104 = .ok (.iload 7, 2) := by decide +kernel
theorem dX9_valueAt_106 : decode cX9_valueAt 106 = .ok (.iaload, 1) := by decide +kernel
theorem dX9_valueAt_107 : decode cX9_valueAt 107 = .ok (.iload 9, 2) := by decide +kernel
theorem dX9_valueAt_109 : decode cX9_valueAt 109 = .ok (.imul, 1) := by decide +kernel
theorem dX9_valueAt_110 : decode cX9_valueAt 110 = .ok (.iload 10, 2) := by decide +kernel
theorem dX9_valueAt_112 : decode cX9_valueAt 112 = .ok (.imul, 1) := by decide +kernel
theorem dX9_valueAt_113 : decode cX9_valueAt 113 = .ok (.iload 11, 2) := by decide +kernel
theorem dX9_valueAt_115 : decode cX9_valueAt 115 = .ok (.imul, 1) := by decide +kernel
theorem dX9_valueAt_116 : decode cX9_valueAt 116 = .ok (.iadd, 1) := by decide +kernel
theorem dX9_valueAt_117 : decode cX9_valueAt 117 = .ok (.istore 6, 2) := by decide +kernel
theorem dX9_valueAt_119 : decode cX9_valueAt 119 = .ok (.iinc 7 1, 3) := by decide +kernel
theorem dX9_valueAt_122 : decode cX9_valueAt 122 = .ok (.goto (-89), 3) := by decide +kernel
theorem dX9_valueAt_125 : decode cX9_valueAt 125 = .ok (.iload 6, 2) := by decide +kernel
theorem dX9_valueAt_127 : decode cX9_valueAt 127 = .ok (.aload_n 0, 1) := by decide +kernel
theorem dX9_valueAt_128 : decode cX9_valueAt 128 = .ok (.getfield 9, 3) := by decide +kernel
theorem dX9_valueAt_131 : decode cX9_valueAt 131 = .ok (.irem, 1) := by decide +kernel
theorem dX9_valueAt_132 : decode cX9_valueAt 132 = .ok (.ireturn, 1) := by decide +kernel
theorem dX9_findPowers_0 : decode cX9_findPowers 0 = .ok (.aload_n 0, 1) := by decide +kernel
theorem dX9_findPowers_1 : decode cX9_findPowers 1 = .ok (.getfield 41, 3) := by decide +kernel
theorem dX9_findPowers_4 : decode cX9_findPowers 4 = .ok (.iload_n 2, 1) := by decide +kernel
theorem dX9_findPowers_5 : decode cX9_findPowers 5 = .ok (.iconst 1, 1) := by decide +kernel
theorem dX9_findPowers_6 : decode cX9_findPowers 6 = .ok (.iastore, 1) := by decide +kernel
theorem dX9_findPowers_7 : decode cX9_findPowers 7 = .ok (.iconst 1, 1) := by decide +kernel
theorem dX9_findPowers_8 : decode cX9_findPowers 8 = .ok (.istore_n 3, 1) := by decide +kernel
theorem dX9_findPowers_9 : decode cX9_findPowers 9 = .ok (.iload_n 3, 1) := by decide +kernel
theorem dX9_findPowers_10 : decode cX9_findPowers 10 = .ok (.bipush 40, 2) := by decide +kernel
theorem dX9_findPowers_12 : decode cX9_findPowers 12 = .ok (.if_icmp .gt 34, 3) := by decide +kernel
theorem dX9_findPowers_15 : decode cX9_findPowers 15 = .ok (.aload_n 0, 1) := by decide +kernel
theorem dX9_findPowers_16 : decode cX9_findPowers 16 = .ok (.getfield 41, 3) := by decide +kernel
theorem dX9_findPowers_19 : decode cX9_findPowers 19 = .ok (.iload_n 2, 1) := by decide +kernel
theorem dX9_findPowers_20 : decode cX9_findPowers 20 = .ok (.iload_n 3, 1) := by decide +kernel
theorem dX9_findPowers_21 : decode cX9_findPowers 21 = .ok (.iadd, 1) := by decide +kernel
theorem dX9_findPowers_22 : decode cX9_findPowers 22 = .ok (.aload_n 0, 1) := by decide +kernel
theorem dX9_findPowers_23 : decode cX9_findPowers 23 = .ok (.getfield 41, 3) := by decide +kernel
theorem dX9_findPowers_26 : decode cX9_findPowers 26 = .ok (.iload_n 2, 1) := by decide +kernel
theorem dX9_findPowers_27 : decode cX9_findPowers 27 = .ok (.iload_n 3, 1) := by decide +kernel
theorem dX9_findPowers_28 : decode cX9_findPowers 28 = .ok (.iadd, 1) := by decide +kernel
theorem dX9_findPowers_29 : decode cX9_findPowers 29 = .ok (.iconst 1, 1) := by decide +kernel
theorem dX9_findPowers_30 : decode cX9_findPowers 30 = .ok (.isub, 1) := by decide +kernel
theorem dX9_findPowers_31 : decode cX9_findPowers 31 = .ok (.iaload, 1) := by decide +kernel
theorem dX9_findPowers_32 : decode cX9_findPowers 32 = .ok (.iload_n 1, 1) := by decide +kernel
theorem dX9_findPowers_33 : decode cX9_findPowers 33 = .ok (.imul, 1) := by decide +kernel
theorem dX9_findPowers_34 : decode cX9_findPowers 34 = .ok (.aload_n 0, 1) := by decide +kernel
theorem dX9_findPowers_35 : decode cX9_findPowers 35 = .ok (.getfield 9, 3) := by decide +kernel
theorem dX9_findPowers_38 : decode cX9_findPowers 38 = .ok (.irem, 1) := by decide +kernel
theorem dX9_findPowers_39 : decode cX9_findPowers 39 = .ok (.iastore, 1) := by decide +kernel
theorem dX9_findPowers_40 : decode cX9_findPowers 40 = .ok (.iinc 3 1, 3) := by decide +kernel
theorem dX9_findPowers_43 : decode cX9_findPowers 43 = .ok (.goto (-34), 3) := by decide +kernel
theorem dX9_findPowers_46 : decode cX9_findPowers 46 = .ok (.return_, 1) := by decide +kernel
