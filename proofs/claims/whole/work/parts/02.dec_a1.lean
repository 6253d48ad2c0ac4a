theorem dX12_layValues_56 : decode cX12_layValues 56 = .ok (.iload 4, 2) := by decide +kernel
theorem dX12_layValues_58 : decode cX12_layValues 58 = .ok (.invokevirtual 184, 3) := by decide +kernel
theorem dX12_layValues_61 : decode cX12_layValues 61 = .ok (.iastore, 1) := by decide +kernel
theorem dX12_layValues_62 : decode cX12_layValues 62 = .ok (.iinc 4 1, 3) := by decide +kernel
theorem dX12_layValues_65 : decode cX12_layValues 65 = .ok (.goto (-42), 3) := by decide +kernel
theorem dX12_layValues_68 : decode cX12_layValues 68 = .ok (.iinc 3 1, 3) := by decide +kernel
theorem dX12_layValues_71 : decode cX12_layValues 71 = .ok (.goto (-59), 3) := by decide +kernel
theorem dX12_layValues_74 : decode cX12_layValues 74 = .ok (.iinc 2 1, 3) := by decide +kernel
theorem dX12_layValues_77 : decode cX12_layValues 77 = .ok (.goto (-75), 3) := by decide +kernel
theorem dX12_layValues_80 : decode cX12_layValues 80 = .ok (.return_, 1) := by decide +kernel
theorem dX12_lines_0 : decode cX12_lines 0 = .ok (.aload_n 0, 1) := by decide +kernel
theorem dX12_lines_1 : decode cX12_lines 1 = .ok (.getfield 9, 3) := by decide +kernel
theorem dX12_lines_4 : decode cX12_lines 4 = .ok (.aload_n 0, 1) := by decide +kernel
theorem dX12_lines_5 : decode cX12_lines 5 = .ok (.getfield 9, 3) := by decide +kernel
theorem dX12_lines_8 : decode cX12_lines 8 = .ok (.imul, 1) := by decide +kernel
theorem dX12_lines_9 : decode cX12_lines 9 = .ok (.aload_n 0, 1) := by decide +kernel
theorem dX12_lines_10 : decode cX12_lines 10 = .ok (.getfield 9, 3) := by decide +kernel
theorem dX12_lines_13 : decode cX12_lines 13 = .ok (.imul, 1) := by decide +kernel
theorem dX12_lines_14 : decode cX12_lines 14 = .ok (.aload_n 0, 1) := by decide +kernel
theorem dX12_lines_15 : decode cX12_lines 15 = .ok (.getfield 9, 3) := by decide +kernel
theorem dX12_lines_18 : decode cX12_lines 18 = .ok (.aload_n 0, 1) := by decide +kernel
theorem dX12_lines_19 : decode cX12_lines 19 = .ok (.getfield 9, 3) := by decide +kernel
theorem dX12_lines_22 : decode cX12_lines 22 = .ok (.imul, 1) := by decide +kernel
theorem dX12_lines_23 : decode cX12_lines 23 = .ok (.iadd, 1) := by decide +kernel
theorem dX12_lines_24 : decode cX12_lines 24 = .ok (.aload_n 0, 1) := by decide +kernel
theorem dX12_lines_25 : decode cX12_lines 25 = .ok (.getfield 9, 3) := by decide +kernel
theorem dX12_lines_28 : decode cX12_lines 28 = .ok (.iadd, 1) := by decide +kernel
theorem dX12_lines_29 : decode cX12_lines 29 = .ok (.ireturn, 1) := by decide +kernel
theorem dX12_layLine_0 : decode cX12_layLine 0 = .ok (.iload_n 1, 1) := by decide +kernel
theorem dX12_layLine_1 : decode cX12_layLine 1 = .ok (.istore_n 2, 1) := by decide +kernel
theorem dX12_layLine_2 : decode cX12_layLine 2 = .ok (.aload_n 0, 1) := by decide +kernel
theorem dX12_layLine_3 : decode cX12_layLine 3 = .ok (.iload_n 2, 1) := by decide +kernel
theorem dX12_layLine_4 : decode cX12_layLine 4 = .ok (.aload_n 0, 1) := by decide +kernel
theorem dX12_layLine_5 : decode cX12_layLine 5 = .ok (.getfield 9, 3) := by decide +kernel
theorem dX12_layLine_8 : decode cX12_layLine 8 = .ok (.aload_n 0, 1) := by decide +kernel
theorem dX12_layLine_9 : decode cX12_layLine 9 = .ok (.getfield 9, 3) := by decide +kernel
theorem dX12_layLine_12 : decode cX12_layLine 12 = .ok (.imul, 1) := by decide +kernel
theorem dX12_layLine_13 : decode cX12_layLine 13 = .ok (.aload_n 0, 1) := by decide +kernel
theorem dX12_layLine_14 : decode cX12_layLine 14 = .ok (.getfield 9, 3) := by decide +kernel
theorem dX12_layLine_17 : decode cX12_layLine 17 = .ok (.imul, 1) := by decide +kernel
theorem dX12_layLine_18 : decode cX12_layLine 18 = .ok (.if_icmp .ge 7, 3) := by decide +kernel
theorem dX12_layLine_21 : decode cX12_layLine 21 = .ok (.iconst 1, 1) := by decide +kernel
theorem dX12_layLine_22 : decode cX12_layLine 22 = .ok (.goto 4, 3) := by decide +kernel
theorem dX12_layLine_25 : decode cX12_layLine 25 = .ok (.iconst 0, 1) := by decide +kernel
theorem dX12_layLine_26 : decode cX12_layLine 26 = .ok (.putfield 221, 3) := by decide +kernel
theorem dX12_layLine_29 : decode cX12_layLine 29 = .ok (.aload_n 0, 1) := by decide +kernel
theorem dX12_layLine_30 : decode cX12_layLine 30 = .ok (.getfield 221, 3) := by decide +kernel
theorem dX12_layLine_33 : decode cX12_layLine 33 = .ok (.iconst 1, 1) := by decide +kernel
theorem dX12_layLine_34 : decode cX12_layLine 34 = .ok (.if_icmp .ne 44, 3) := by decide +kernel
theorem dX12_layLine_37 : decode cX12_layLine 37 = .ok (.aload_n 0, 1) := by decide +kernel
theorem dX12_layLine_38 : decode cX12_layLine 38 = .ok (.iload_n 2, 1) := by decide +kernel
theorem dX12_layLine_39 : decode cX12_layLine 39 = .ok (.aload_n 0, 1) := by decide +kernel
theorem dX12_layLine_40 : decode cX12_layLine 40 = .ok (.getfield 9, 3) := by decide +kernel
theorem dX12_layLine_43 : decode cX12_layLine 43 = .ok (.aload_n 0, 1) := by decide +kernel
theorem dX12_layLine_44 : decode cX12_layLine 44 = .ok (.getfield 9, 3) := by decide +kernel
theorem dX12_layLine_47 : decode cX12_layLine 47 = .ok (.imul, 1) := by decide +kernel
theorem dX12_layLine_48 : decode cX12_layLine 48 = .ok (.idiv, 1) := by decide +kernel
theorem dX12_layLine_49 : decode cX12_layLine 49 = .ok (.putfield 224, 3) := by decide +kernel
theorem dX12_layLine_52 : decode cX12_layLine 52 = .ok (.aload_n 0, 1) := by decide +kernel
theorem dX12_layLine_53 : decode cX12_layLine 53 = .ok (.iload_n 2, 1) := by decide +kernel
theorem dX12_layLine_54 : decode cX12_layLine 54 = .ok (.aload_n 0, 1) := by decide +kernel
theorem dX12_layLine_55 : decode cX12_layLine 55 = .ok (.getfield 9, 3) := by decide +kernel
theorem dX12_layLine_58 : decode cX12_layLine 58 = .ok (.idiv, 1) := by decide +kernel
theorem dX12_layLine_59 : decode cX12_layLine 59 = .ok (.aload_n 0, 1) := by decide +kernel
theorem dX12_layLine_60 : decode cX12_layLine 60 = .ok (.getfield 9, 3) := by decide +kernel
theorem dX12_layLine_63 : decode cX12_layLine 63 = .ok (.irem, 1) := by decide +kernel
theorem dX12_layLine_64 : decode cX12_layLine 64 = .ok (.putfield 227, 3) := by decide +kernel
theorem dX12_layLine_67 : decode cX12_layLine 67 = .ok (.aload_n 0, 1) := by decide +kernel
theorem dX12_layLine_68 : decode cX12_layLine 68 = .ok (.iload_n 2, 1) := by decide +kernel
theorem dX12_layLine_69 : decode cX12_layLine 69 = .ok (.aload_n 0, 1) := by decide +kernel
theorem dX12_layLine_70 : decode cX12_layLine 70 = .ok (.getfield 9, 3) := by decide +kernel
theorem dX12_layLine_73 : decode cX12_layLine 73 = .ok (.irem, 1) := by decide +kernel
theorem dX12_layLine_74 : decode cX12_layLine 74 = .ok (.putfield 230, 3) := by decide +kernel
theorem dX12_layLine_77 : decode cX12_layLine 77 = .ok (.return_, 1) := by decide +kernel
theorem dX12_layLine_78 : decode cX12_layLine 78 = .ok (.iload_n 2, 1) := by decide +kernel
theorem dX12_layLine_79 : decode cX12_layLine 79 = .ok (.aload_n 0, 1) := by decide +kernel
theorem dX12_layLine_80 : decode cX12_layLine 80 = .ok (.getfield 9, 3) := by decide +kernel
theorem dX12_layLine_83 : decode cX12_layLine 83 = .ok (.aload_n 0, 1) := by decide +kernel
theorem dX12_layLine_84 : decode cX12_layLine 84 = .ok (.getfield 9, 3) := by decide +kernel
theorem dX12_layLine_87 : decode cX12_layLine 87 = .ok (.imul, 1) := by decide +kernel
theorem dX12_layLine_88 : decode cX12_layLine 88 = .ok (.aload_n 0, 1) := by decide +kernel
theorem dX12_layLine_89 : decode cX12_layLine 89 = .ok (.getfield 9, 3) := by decide +kernel
theorem dX12_layLine_92 : decode cX12_layLine 92 = .ok (.imul, 1) := by decide +kernel
theorem dX12_layLine_93 : decode cX12_layLine 93 = .ok (.isub, 1) := by decide +kernel
theorem dX12_layLine_94 : decode cX12_layLine 94 = .ok (.istore_n 2, 1) := by decide +kernel
theorem dX12_layLine_95 : decode cX12_layLine 95 = .ok (.aload_n 0, 1) := by decide +kernel
theorem dX12_layLine_96 : decode cX12_layLine 96 = .ok (.iload_n 2, 1) := by decide +kernel
theorem dX12_layLine_97 : decode cX12_layLine 97 = .ok (.aload_n 0, 1) := by decide +kernel
theorem dX12_layLine_98 : decode cX12_layLine 98 = .ok (.getfield 9, 3) := by decide +kernel
theorem dX12_layLine_101 : decode cX12_layLine 101 = .ok (.aload_n 0, 1) := by decide +kernel
theorem dX12_layLine_102 : decode cX12_layLine 102 = .ok (.getfield 9, 3) := by decide +kernel
theorem dX12_layLine_105 : decode cX12_layLine 105 = .ok (.imul, 1) := by decide +kernel
theorem dX12_layLine_106 : decode cX12_layLine 106 = .ok (.if_icmp .ge 7, 3) := by decide +kernel
theorem dX12_layLine_109 : decode cX12_layLine 109 = .ok (.iconst 1, 1) := by decide +kernel
theorem dX12_layLine_110 : decode cX12_layLine 110 = .ok (.goto 4, 3) := by decide +kernel
theorem dX12_layLine_113 : decode cX12_layLine 113 = .ok (.iconst 0, 1) := by decide +kernel
theorem dX12_layLine_114 : decode cX12_layLine 114 = .ok (.putfield 224, 3) := by decide +kernel
theorem dX12_layLine_117 : decode cX12_layLine 117 = .ok (.aload_n 0, 1) := by decide +kernel
theorem dX12_layLine_118 : decode cX12_layLine 118 = .ok (.aload_n 0, 1) := by decide +kernel
theorem dX12_layLine_119 : decode cX12_layLine 119 = .ok (.getfield 224, 3) := by decide +kernel
theorem dX12_layLine_122 : decode cX12_layLine 122 = .ok (.iconst 1, 1) := by decide +kernel
theorem dX12_layLine_123 : decode cX12_layLine 123 = .ok (.if_icmp .ne 12, 3) := by decide +kernel
theorem dX12_layLine_126 : decode cX12_layLine 126 = .ok (.iload_n 2, 1) := by decide +kernel
theorem dX12_layLine_127 : decode cX12_layLine 127 = .ok (.aload_n 0, 1) := by decide +kernel
theorem dX12_layLine_128 : decode cX12_layLine 128 = .ok (.getfield 9, 3) := by decide +kernel
theorem dX12_layLine_131 : decode cX12_layLine 131 = .ok (.idiv, 1) := by decide +kernel
theorem dX12_layLine_132 : decode cX12_layLine 132 = .ok (.goto 4, 3) := by decide +kernel
theorem dX12_layLine_135 : decode cX12_layLine 135 = .ok (.iconst 1, 1) := by decide +kernel
theorem dX12_layLine_136 : decode cX12_layLine 136 = .ok (.putfield 227, 3) := by decide +kernel
theorem dX12_layLine_139 : decode cX12_layLine 139 = .ok (.aload_n 0, 1) := by decide +kernel
theorem dX12_layLine_140 : decode cX12_layLine 140 = .ok (.aload_n 0, 1) := by decide +kernel
theorem dX12_layLine_141 : decode cX12_layLine 141 = .ok (.getfield 224, 3) := by decide +kernel
theorem dX12_layLine_144 : decode cX12_layLine 144 = .ok (.iconst 1, 1) := by decide +kernel
theorem dX12_layLine_145 : decode cX12_layLine 145 = .ok (.if_icmp .ne 12, 3) := by decide +kernel
theorem dX12_layLine_148 : decode cX12_layLine 148 = .ok (.iload_n 2, 1) := by decide +kernel
theorem dX12_layLine_149 : decode cX12_layLine 149 = .ok (.aload_n 0, 1) := by decide +kernel
theorem dX12_layLine_150 : decode cX12_layLine 150 = .ok (.getfield 9, 3) := by decide +kernel
theorem dX12_layLine_153 : decode cX12_layLine 153 = .ok (.irem, 1) := by decide +kernel
theorem dX12_layLine_154 : decode cX12_layLine 154 = .ok (.goto 14, 3) := by decide +kernel
theorem dX12_layLine_157 : decode cX12_layLine 157 = .ok (.iload_n 2, 1) := by decide +kernel
theorem dX12_layLine_158 : decode cX12_layLine 158 = .ok (.aload_n 0, 1) := by decide +kernel
theorem dX12_layLine_159 : decode cX12_layLine 159 = .ok (.getfield 9, 3) := by decide +kernel
theorem dX12_layLine_162 : decode cX12_layLine 162 = .ok (.aload_n 0, 1) := by decide +kernel
theorem dX12_layLine_163 : decode cX12_layLine 163 = .ok (.getfield 9, 3) := by decide +kernel
theorem dX12_layLine_166 : decode cX12_layLine 166 = .ok (.imul, 1) := by decide +kernel
theorem dX12_layLine_167 : decode cX12_layLine 167 = .ok (.isub, 1) := by decide +kernel
theorem dX12_layLine_168 : decode cX12_layLine 168 = .ok (.putfield 230, 3) := by decide +kernel
theorem dX12_layLine_171 : decode cX12_layLine 171 = .ok (.return_, 1) := by decide +kernel
theorem dX12_vanishes_0 : decode cX12_vanishes 0 = .ok (.iconst 0, 1) := by decide +kernel
theorem dX12_vanishes_1 : decode cX12_vanishes 1 = .ok (.istore_n 1, 1) := by decide +kernel
theorem dX12_vanishes_2 : decode cX12_vanishes 2 = .ok (.iload_n 1, 1) := by decide +kernel
theorem dX12_vanishes_3 : decode cX12_vanishes 3 = .ok (.aload_n 0, 1) := by decide +kernel
theorem dX12_vanishes_4 : decode cX12_vanishes 4 = .ok (.getfield 9, 3) := by decide +kernel
theorem dX12_vanishes_7 : decode cX12_vanishes 7 = .ok (.if_icmp .ge 99, 3) := by decide +kernel
theorem dX12_vanishes_10 : decode cX12_vanishes 10 = .ok (.iconst 0, 1) := by decide +kernel
theorem dX12_vanishes_11 : decode cX12_vanishes 11 = .ok (.istore_n 2, 1) := by decide +kernel
theorem dX12_vanishes_12 : decode cX12_vanishes 12 = .ok (.iload_n 2, 1) := by decide +kernel
theorem dX12_vanishes_13 : decode cX12_vanishes 13 = .ok (.aload_n 0, 1) := by decide +kernel
theorem dX12_vanishes_14 : decode cX12_vanishes 14 = .ok (.getfield 9, 3) := by decide +kernel
theorem dX12_vanishes_17 : decode cX12_vanishes 17 = .ok (.if_icmp .ge 83, 3) := by decide +kernel
theorem dX12_vanishes_20 : decode cX12_vanishes 20 = .ok (.iconst 0, 1) := by decide +kernel
theorem dX12_vanishes_21 : decode cX12_vanishes 21 = .ok (.istore_n 3, 1) := by decide +kernel
theorem dX12_vanishes_22 : decode cX12_vanishes 22 = .ok (.iload_n 3, 1) := by decide +kernel
theorem dX12_vanishes_23 : decode cX12_vanishes 23 = .ok (.aload_n 0, 1) := by decide +kernel
theorem dX12_vanishes_24 : decode cX12_vanishes 24 = .ok (.getfield 9, 3) := by decide +kernel
theorem dX12_vanishes_27 : decode cX12_vanishes 27 = .ok (.if_icmp .ge 67, 3) := by decide +kernel
theorem dX12_vanishes_30 : decode cX12_vanishes 30 = .ok (.aload_n 0, 1) := by decide +kernel
theorem dX12_vanishes_31 : decode cX12_vanishes 31 = .ok (.getfield 221, 3) := by decide +kernel
theorem dX12_vanishes_34 : decode cX12_vanishes 34 = .ok (.iload_n 1, 1) := by decide +kernel
theorem dX12_vanishes_35 : decode cX12_vanishes 35 = .ok (.imul, 1) := by decide +kernel
theorem dX12_vanishes_36 : decode cX12_vanishes 36 = .ok (.aload_n 0, 1) := by decide +kernel
theorem dX12_vanishes_37 : decode cX12_vanishes 37 = .ok (.getfield 224, 3) := by decide +kernel
theorem dX12_vanishes_40 : decode cX12_vanishes 40 = .ok (.iload_n 2, 1) := by decide +kernel
theorem dX12_vanishes_41 : decode cX12_vanishes 41 = .ok (.imul, 1) := by decide +kernel
theorem dX12_vanishes_42 : decode cX12_vanishes 42 = .ok (.iadd, 1) := by decide +kernel
theorem dX12_vanishes_43 : decode cX12_vanishes 43 = .ok (.aload_n 0, 1) := by decide +kernel
theorem dX12_vanishes_44 : decode cX12_vanishes 44 = .ok (.getfield 227, 3) := by decide +kernel
theorem dX12_vanishes_47 : decode cX12_vanishes 47 = .ok (.iload_n 3, 1) := by decide +kernel
theorem dX12_vanishes_48 : decode cX12_vanishes 48 = .ok (.imul, 1) := by decide +kernel
theorem dX12_vanishes_49 : decode cX12_vanishes 49 = .ok (.iadd, 1) := by decide +kernel
theorem dX12_vanishes_50 : decode cX12_vanishes 50 = .ok (.aload_n 0, 1) := by decide +kernel
theorem dX12_vanishes_51 : decode cX12_vanishes 51 = .ok (.getfield 230, 3) := by decide +kernel
theorem dX12_vanishes_54 : decode cX12_vanishes 54 = .ok (.iadd, 1) := by decide +kernel
theorem dX12_vanishes_55 : decode cX12_vanishes 55 = .ok (.aload_n 0, 1) := by decide +kernel
theorem dX12_vanishes_56 : decode cX12_vanishes 56 = .ok (.getfield 9, 3) := by decide +kernel
theorem dX12_vanishes_59 : decode cX12_vanishes 59 = .ok (.irem, 1) := by decide +kernel
theorem dX12_vanishes_60 : decode cX12_vanishes 60 = .ok (.ifCond .ne 28, 3) := by decide +kernel
theorem dX12_vanishes_63 : decode cX12_vanishes 63 = .ok (.aload_n 0, 1) := by decide +kernel
theorem dX12_vanishes_64 : decode cX12_vanishes 64 = .ok (.getfield 68, 3) := by decide +kernel
theorem dX12_vanishes_67 : decode cX12_vanishes 67 = .ok (.iload_n 1, 1) := by decide +kernel
theorem dX12_vanishes_68 : decode cX12_vanishes 68 = .ok (.aload_n 0, 1) := by decide +kernel
theorem dX12_vanishes_69 : decode cX12_vanishes 69 = .ok (.getfield 9, 3) := by decide +kernel
theorem dX12_vanishes_72 : decode cX12_vanishes 72 = .ok (.imul, 1) := by decide +kernel
theorem dX12_vanishes_73 : decode cX12_vanishes 73 = .ok (.iload_n 2, 1) := by decide +kernel
theorem dX12_vanishes_74 : decode cX12_vanishes 74 = .ok (.iadd, 1) := by decide +kernel
theorem dX12_vanishes_75 : decode cX12_vanishes 75 = .ok (.aload_n 0, 1) := by decide +kernel
theorem dX12_vanishes_76 : decode cX12_vanishes 76 = .ok (.getfield 9, 3) := by decide +kernel
theorem dX12_vanishes_79 : decode cX12_vanishes 79 = .ok (.imul, 1) := by decide +kernel
theorem dX12_vanishes_80 : decode cX12_vanishes 80 = .ok (.iload_n 3, 1) := by decide +kernel
theorem dX12_vanishes_81 : decode cX12_vanishes 81 = .ok (.iadd, 1) := by decide +kernel
theorem dX12_vanishes_82 : decode cX12_vanishes 82 = .ok (.iaload, 1) := by decide +kernel
theorem dX12_vanishes_83 : decode cX12_vanishes 83 = .ok (.ifCond .eq 5, 3) := by decide +kernel
theorem dX12_vanishes_86 : decode cX12_vanishes 86 = .ok (.iconst 0, 1) := by decide +kernel
theorem dX12_vanishes_87 : decode cX12_vanishes 87 = .ok (.ireturn, 1) := by decide +kernel
theorem dX12_vanishes_88 : decode cX12_vanishes 88 = .ok (.iinc 3 1, 3) := by decide +kernel
theorem dX12_vanishes_91 : decode cX12_vanishes 91 = .ok (.goto (-69), 3) := by decide +kernel
theorem dX12_vanishes_94 : decode cX12_vanishes 94 = .ok (.iinc 2 1, 3) := by decide +kernel
theorem dX12_vanishes_97 : decode cX12_vanishes 97 = .ok (.goto (-85), 3) := by decide +kernel
theorem dX12_vanishes_100 : decode cX12_vanishes 100 = .ok (.iinc 1 1, 3) := by decide +kernel
theorem dX12_vanishes_103 : decode cX12_vanishes 103 = .ok (.goto (-101), 3) := by decide +kernel
theorem dX12_vanishes_106 : decode cX12_vanishes 106 = .ok (.iconst 1, 1) := by decide +kernel
theorem dX12_vanishes_107 : decode cX12_vanishes 107 = .ok (.ireturn, 1) := by decide +kernel
theorem dX12_lead_0 : decode cX12_lead 0 = .ok (.aload_n 0, 1) := by decide +kernel
theorem dX12_lead_1 : decode cX12_lead 1 = .ok (.getfield 221, 3) := by decide +kernel
theorem dX12_lead_4 : decode cX12_lead 4 = .ok (.iconst 1, 1) := by decide +kernel
theorem dX12_lead_5 : decode cX12_lead 5 = .ok (.if_icmp .ne 7, 3) := by decide +kernel
theorem dX12_lead_8 : decode cX12_lead 8 = .ok (.iconst 0, 1) := by decide +kernel
theorem dX12_lead_9 : decode cX12_lead 9 = .ok (.goto 16, 3) := by decide +kernel
theorem dX12_lead_12 : decode cX12_lead 12 = .ok (.aload_n 0, 1) := by decide +kernel
theorem dX12_lead_13 : decode cX12_lead 13 = .ok (.getfield 224, 3) := by decide +kernel
theorem dX12_lead_16 : decode cX12_lead 16 = .ok (.iconst 1, 1) := by decide +kernel
theorem dX12_lead_17 : decode cX12_lead 17 = .ok (.if_icmp .ne 7, 3) := by decide +kernel
theorem dX12_lead_20 : decode cX12_lead 20 = .ok (.iconst 1, 1) := by decide +kernel
theorem dX12_lead_21 : decode cX12_lead 21 = .ok (.goto 4, 3) := by decide +kernel
theorem dX12_lead_24 : decode cX12_lead 24 = .ok (.iconst 2, 1) := by decide +kernel
theorem dX12_lead_25 : decode cX12_lead 25 = .ok (.ireturn, 1) := by decide +kernel
theorem dX12_cell_0 : decode cX12_cell 0 = .ok (.iload_n 0, 1) := by decide +kernel
theorem dX12_cell_1 : decode cX12_cell 1 = .ok (.ifCond .ne 12, 3) := by decide +kernel
theorem dX12_cell_4 : decode cX12_cell 4 = .ok (.iload_n 1, 1) := by decide +kernel
theorem dX12_cell_5 : decode cX12_cell 5 = .ok (.iload_n 2, 1) := by decide +kernel
theorem dX12_cell_6 : decode cX12_cell 6 = .ok (.iload_n 3, 1) := by decide +kernel
theorem dX12_cell_7 : decode cX12_cell 7 = .ok (.invokestatic 144, 3) := by decide +kernel
theorem dX12_cell_10 : decode cX12_cell 10 = .ok (.goto 23, 3) := by decide +kernel
theorem dX12_cell_13 : decode cX12_cell 13 = .ok (.iload_n 0, 1) := by decide +kernel
theorem dX12_cell_14 : decode cX12_cell 14 = .ok (.iconst 1, 1) := by decide +kernel
theorem dX12_cell_15 : decode cX12_cell 15 = .ok (.if_icmp .ne 12, 3) := by decide +kernel
theorem dX12_cell_18 : decode cX12_cell 18 = .ok (.iload_n 2, 1) := by decide +kernel
theorem dX12_cell_19 : decode cX12_cell 19 = .ok (.iload_n 1, 1) := by decide +kernel
theorem dX12_cell_20 : decode cX12_cell 20 = .ok (.iload_n 3, 1) := by decide +kernel
theorem dX12_cell_21 : decode cX12_cell 21 = .ok (.invokestatic 144, 3) := by decide +kernel
theorem dX12_cell_24 : decode cX12_cell 24 = .ok (.goto 9, 3) := by decide +kernel
theorem dX12_cell_27 : decode cX12_cell 27 = .ok (.iload_n 2, 1) := by decide +kernel
theorem dX12_cell_28 : decode cX12_cell 28 = .ok (.iload_n 3, 1) := by decide +kernel
theorem dX12_cell_29 : decode cX12_cell 29 = .ok (.iload_n 1, 1) := by decide +kernel
theorem dX12_cell_30 : decode cX12_cell 30 = .ok (.invokestatic 144, 3) := by decide +kernel
theorem dX12_cell_33 : decode cX12_cell 33 = .ok (.ireturn, 1) := by decide +kernel
theorem dX12_steps_0 : decode cX12_steps 0 = .ok (.iload_n 1, 1) := by decide +kernel
theorem dX12_steps_1 : decode cX12_steps 1 = .ok (.ifCond .ne 15, 3) := by decide +kernel
theorem dX12_steps_4 : decode cX12_steps 4 = .ok (.aload_n 0, 1) := by decide +kernel
theorem dX12_steps_5 : decode cX12_steps 5 = .ok (.getfield 9, 3) := by decide +kernel
theorem dX12_steps_8 : decode cX12_steps 8 = .ok (.aload_n 0, 1) := by decide +kernel
theorem dX12_steps_9 : decode cX12_steps 9 = .ok (.getfield 224, 3) := by decide +kernel
theorem dX12_steps_12 : decode cX12_steps 12 = .ok (.isub, 1) := by decide +kernel
theorem dX12_steps_13 : decode cX12_steps 13 = .ok (.goto 4, 3) := by decide +kernel
theorem dX12_steps_16 : decode cX12_steps 16 = .ok (.iconst 0, 1) := by decide +kernel
theorem dX12_steps_17 : decode cX12_steps 17 = .ok (.istore_n 3, 1) := by decide +kernel
theorem dX12_steps_18 : decode cX12_steps 18 = .ok (.iload_n 1, 1) := by decide +kernel
theorem dX12_steps_19 : decode cX12_steps 19 = .ok (.iconst 2, 1) := by decide +kernel
theorem dX12_steps_20 : decode cX12_steps 20 = .ok (.if_icmp .ne 7, 3) := by decide +kernel
theorem dX12_steps_23 : decode cX12_steps 23 = .ok (.iconst 0, 1) := by decide +kernel
theorem dX12_steps_24 : decode cX12_steps 24 = .ok (.goto 12, 3) := by decide +kernel
theorem dX12_steps_27 : decode cX12_steps 27 = .ok (.aload_n 0, 1) := by decide +kernel
theorem dX12_steps_28 : decode cX12_steps 28 = .ok (.getfield 9, 3) := by decide +kernel
theorem dX12_steps_31 : decode cX12_steps 31 = .ok (.aload_n 0, 1) := by decide +kernel
theorem dX12_steps_32 : decode cX12_steps 32 = .ok (.getfield 227, 3) := by decide +kernel
theorem dX12_steps_35 : decode cX12_steps 35 = .ok (.isub, 1) := by decide +kernel
theorem dX12_steps_36 : decode cX12_steps 36 = .ok (.istore 4, 2) := by decide +kernel
theorem dX12_steps_38 : decode cX12_steps 38 = .ok (.iconst 1, 1) := by decide +kernel
theorem dX12_steps_39 : decode cX12_steps 39 = .ok (.istore 5, 2) := by decide +kernel
theorem dX12_steps_41 : decode cX12_steps 41 = .ok (.iconst 0, 1) := by decide +kernel
theorem dX12_steps_42 : decode cX12_steps 42 = .ok (.istore 6, 2) := by decide +kernel
theorem dX12_steps_44 : decode cX12_steps 44 = .ok (.iload 6, 2) := by decide +kernel
theorem dX12_steps_46 : decode cX12_steps 46 = .ok (.bipush 41, 2) := by decide +kernel
theorem dX12_steps_48 : decode cX12_steps 48 = .ok (.if_icmp .gt 206, 3) := by decide +kernel
theorem dX12_steps_51 : decode cX12_steps 51 = .ok (.iconst 0, 1) := by decide +kernel
theorem dX12_steps_52 : decode cX12_steps 52 = .ok (.istore 7, 2) := by decide +kernel
theorem dX12_steps_54 : decode cX12_steps 54 = .ok (.iload 7, 2) := by decide +kernel
theorem dX12_steps_56 : decode cX12_steps 56 = .ok (.bipush 41, 2) := by decide +kernel
theorem dX12_steps_58 : decode cX12_steps 58 = .ok (.if_icmp .gt 190, 3) := by decide +kernel
theorem dX12_steps_61 : decode cX12_steps 61 = .ok (.iload 6, 2) := by decide +kernel
theorem dX12_steps_63 : decode cX12_steps 63 = .ok (.bipush 41, 2) := by decide +kernel
theorem dX12_steps_65 : decode cX12_steps 65 = .ok (.if_icmp .ge 27, 3) := by decide +kernel
theorem dX12_steps_68 : decode cX12_steps 68 = .ok (.iload 7, 2) := by decide +kernel
theorem dX12_steps_70 : decode cX12_steps 70 = .ok (.bipush 41, 2) := by decide +kernel
theorem dX12_steps_72 : decode cX12_steps 72 = .ok (.if_icmp .ge 20, 3) := by decide +kernel
theorem dX12_steps_75 : decode cX12_steps 75 = .ok (.aload_n 0, 1) := by decide +kernel
theorem dX12_steps_76 : decode cX12_steps 76 = .ok (.getfield 56, 3) := by decide +kernel
theorem dX12_steps_79 : decode cX12_steps 79 = .ok (.iload_n 1, 1) := by decide +kernel
theorem dX12_steps_80 : decode cX12_steps 80 = .ok (.iload_n 2, 1) := by decide +kernel
theorem dX12_steps_81 : decode cX12_steps 81 = .ok (.iload 6, 2) := by decide +kernel
theorem dX12_steps_83 : decode cX12_steps 83 = .ok (.iload 7, 2) := by decide +kernel
theorem dX12_steps_85 : decode cX12_steps 85 = .ok (.invokestatic 233, 3) := by decide +kernel
theorem dX12_steps_88 : decode cX12_steps 88 = .ok (.iaload, 1) := by decide +kernel
theorem dX12_steps_89 : decode cX12_steps 89 = .ok (.goto 4, 3) := by decide +kernel
theorem dX12_steps_92 : decode cX12_steps 92 = .ok (.iconst 0, 1) := by decide +kernel
theorem dX12_steps_93 : decode cX12_steps 93 = .ok (.istore 8, 2) := by decide +kernel
theorem dX12_steps_95 : decode cX12_steps 95 = .ok (.iload 8, 2) := by decide +kernel
theorem dX12_steps_97 : decode cX12_steps 97 = .ok (.aload_n 0, 1) := by decide +kernel
theorem dX12_steps_98 : decode cX12_steps 98 = .ok (.getfield 62, 3) := by decide +kernel
theorem dX12_steps_101 : decode cX12_steps 101 = .ok (.iload 6, 2) := by decide +kernel
theorem dX12_steps_103 : decode cX12_steps 103 = .ok (.bipush 42, 2) := by decide +kernel
theorem dX12_steps_105 : decode cX12_steps 105 = .ok (.imul, 1) := by decide +kernel
theorem dX12_steps_106 : decode cX12_steps 106 = .ok (.iload 7, 2) := by decide +kernel
theorem dX12_steps_108 : decode cX12_steps 108 = .ok (.iadd, 1) := by decide +kernel
theorem dX12_steps_109 : decode cX12_steps 109 = .ok (.iaload, 1) := by decide +kernel
theorem dX12_steps_110 : decode cX12_steps 110 = .ok (.aload_n 0, 1) := by decide +kernel
theorem dX12_steps_111 : decode cX12_steps 111 = .ok (.getfield 9, 3) := by decide +kernel
theorem dX12_steps_114 : decode cX12_steps 114 = .ok (.aload_n 0, 1) := by decide +kernel
theorem dX12_steps_115 : decode cX12_steps 115 = .ok (.getfield 230, 3) := by decide +kernel
theorem dX12_steps_118 : decode cX12_steps 118 = .ok (.isub, 1) := by decide +kernel
theorem dX12_steps_119 : decode cX12_steps 119 = .ok (.imul, 1) := by decide +kernel
theorem dX12_steps_120 : decode cX12_steps 120 = .ok (.iadd, 1) := by decide +kernel
theorem dX12_steps_121 : decode cX12_steps 121 = .ok (.istore 8, 2) := by decide +kernel
theorem dX12_steps_123 : decode cX12_steps 123 = .ok (.iload 8, 2) := by decide +kernel
theorem dX12_steps_125 : decode cX12_steps 125 = .ok (.iload 6, 2) := by decide +kernel
theorem dX12_steps_127 : decode cX12_steps 127 = .ok (.ifCond .le 23, 3) := by decide +kernel
theorem dX12_steps_130 : decode cX12_steps 130 = .ok (.aload_n 0, 1) := by decide +kernel
theorem dX12_steps_131 : decode cX12_steps 131 = .ok (.getfield 62, 3) := by decide +kernel
theorem dX12_steps_134 : decode cX12_steps 134 = .ok (.iload 6, 2) := by decide +kernel
theorem dX12_steps_136 : decode cX12_steps 136 = .ok (.iconst 1, 1) := by decide +kernel
theorem dX12_steps_137 : decode cX12_steps 137 = .ok (.isub, 1) := by decide +kernel
theorem dX12_steps_138 : decode cX12_steps 138 = .ok (.bipush 42, 2) := by decide +kernel
theorem dX12_steps_140 : decode cX12_steps 140 = .ok (.imul, 1) := by decide +kernel
theorem dX12_steps_141 : decode cX12_steps 141 = .ok (.iload 7, 2) := by decide +kernel
theorem dX12_steps_143 : decode cX12_steps 143 = .ok (.iadd, 1) := by decide +kernel
theorem dX12_steps_144 : decode cX12_steps 144 = .ok (.iaload, 1) := by decide +kernel
theorem dX12_steps_145 : decode cX12_steps 145 = .ok (.iload_n 3, 1) := by decide +kernel
theorem dX12_steps_146 : decode cX12_steps 146 = .ok (.imul, 1) := by decide +kernel
theorem dX12_steps_147 : decode cX12_steps 147 = .ok (.goto 4, 3) := by decide +kernel
theorem dX12_steps_150 : decode cX12_steps 150 = .ok (.iconst 0, 1) := by decide +kernel
theorem dX12_steps_151 : decode cX12_steps 151 = .ok (.iadd, 1) := by decide +kernel
theorem dX12_steps_152 : decode cX12_steps 152 = .ok (.istore 8, 2) := by decide +kernel
theorem dX12_steps_154 : decode cX12_steps 154 = .ok (.iload 8, 2) := by decide +kernel
theorem dX12_steps_156 : decode cX12_steps 156 = .ok (.iload 7, 2) := by decide +kernel
theorem dX12_steps_158 : decode cX12_steps 158 = .ok (.ifCond .le 24, 3) := by decide +kernel
theorem dX12_steps_161 : decode cX12_steps 161 = .ok (.aload_n 0, 1) := by decide +kernel
theorem dX12_steps_162 : decode cX12_steps 162 = .ok (.getfield 62, 3) := by decide +kernel
theorem dX12_steps_165 : decode cX12_steps 165 = .ok (.iload 6, 2) := by decide +kernel
theorem dX12_steps_167 : decode cX12_steps 167 = .ok (.bipush 42, 2) := by decide +kernel
theorem dX12_steps_169 : decode cX12_steps 169 = .ok (.imul, 1) := by decide +kernel
theorem dX12_steps_170 : decode cX12_steps 170 = .ok (.iload 7, 2) := by decide +kernel
theorem dX12_steps_172 : decode cX12_steps 172 = .ok (.iadd, 1) := by decide +kernel
theorem dX12_steps_173 : decode cX12_steps 173 = .ok (.iconst 1, 1) := by decide +kernel
theorem dX12_steps_174 : decode cX12_steps 174 = .ok (.isub, 1) := by decide +kernel
theorem dX12_steps_175 : decode cX12_steps 175 = .ok (.iaload, 1) := by decide +kernel
theorem dX12_steps_176 : decode cX12_steps 176 = .ok (.iload 4, 2) := by decide +kernel
theorem dX12_steps_178 : decode cX12_steps 178 = .ok (.imul, 1) := by decide +kernel
theorem dX12_steps_179 : decode cX12_steps 179 = .ok (.goto 4, 3) := by decide +kernel
theorem dX12_steps_182 : decode cX12_steps 182 = .ok (.iconst 0, 1) := by decide +kernel
theorem dX12_steps_183 : decode cX12_steps 183 = .ok (.iadd, 1) := by decide +kernel
theorem dX12_steps_184 : decode cX12_steps 184 = .ok (.istore 8, 2) := by decide +kernel
theorem dX12_steps_186 : decode cX12_steps 186 = .ok (.aload_n 0, 1) := by decide +kernel
theorem dX12_steps_187 : decode cX12_steps 187 = .ok (.getfield 65, 3) := by decide +kernel
theorem dX12_steps_190 : decode cX12_steps 190 = .ok (.iload 6, 2) := by decide +kernel
theorem dX12_steps_192 : decode cX12_steps 192 = .ok (.bipush 42, 2) := by decide +kernel
theorem dX12_steps_194 : decode cX12_steps 194 = .ok (.imul, 1) := by decide +kernel
theorem dX12_steps_195 : decode cX12_steps 195 = .ok (.iload 7, 2) := by decide +kernel
theorem dX12_steps_197 : decode cX12_steps 197 = .ok (.iadd, 1) := by decide +kernel
theorem dX12_steps_198 : decode cX12_steps 198 = .ok (.iload 8, 2) := by decide +kernel
theorem dX12_steps_200 : decode cX12_steps 200 = .ok (.aload_n 0, 1) := by decide +kernel
theorem dX12_steps_201 : decode cX12_steps 201 = .ok (.getfield 9, 3) := by decide +kernel
theorem dX12_steps_204 : decode cX12_steps 204 = .ok (.irem, 1) := by decide +kernel
theorem dX12_steps_205 : decode cX12_steps 205 = .ok (.iastore, 1) := by decide +kernel
theorem dX12_steps_206 : decode cX12_steps 206 = .ok (.iload 5, 2) := by decide +kernel
theorem dX12_steps_208 : decode cX12_steps 208 = .ok (.ifCond .eq 31, 3) := by decide +kernel
theorem dX12_steps_211 : decode cX12_steps 211 = .ok (.iload 8, 2) := by decide +kernel
theorem dX12_steps_213 : decode cX12_steps 213 = .ok (.aload_n 0, 1) := by decide +kernel
theorem dX12_steps_214 : decode cX12_steps 214 = .ok (.getfield 9, 3) := by decide +kernel
theorem dX12_steps_217 : decode cX12_steps 217 = .ok (.irem, 1) := by decide +kernel
theorem dX12_steps_218 : decode cX12_steps 218 = .ok (.ifCond .eq 17, 3) := by decide +kernel
theorem dX12_steps_221 : decode cX12_steps 221 = .ok (.iload 6, 2) := by decide +kernel
theorem dX12_steps_223 : decode cX12_steps 223 = .ok (.bipush 41, 2) := by decide +kernel
theorem dX12_steps_225 : decode cX12_steps 225 = .ok (.if_icmp .ge 14, 3) := by decide +kernel
theorem dX12_steps_228 : decode cX12_steps 228 = .ok (.iload 7, 2) := by decide +kernel
theorem dX12_steps_230 : decode cX12_steps 230 = .ok (.bipush 41, 2) := by decide +kernel
theorem dX12_steps_232 : decode cX12_steps 232 = .ok (.if_icmp .ge 7, 3) := by decide +kernel
theorem dX12_steps_235 : decode cX12_steps 235 = .ok (.iconst 1, 1) := by decide +kernel
theorem dX12_steps_236 : decode cX12_steps 236 = .ok (.goto 4, 3) := by decide +kernel
theorem dX12_steps_239 : decode cX12_steps 239 = .ok (.iconst 0, 1) := by decide +kernel
theorem dX12_steps_240 : decode cX12_steps 240 = .ok (.istore 5, 2) := by decide +kernel
theorem dX12_steps_242 : decode cX12_steps 242 = .ok (.iinc 7 1, 3) := by decide +kernel
theorem dX12_steps_245 : decode cX12_steps 245 = .ok (.goto (-191), 3) := by decide +kernel
theorem dX12_steps_248 : decode cX12_steps 248 = .ok (.iinc 6 1, 3) := by decide +kernel
theorem dX12_steps_251 : decode cX12_steps 251 = .ok (.goto (-207), 3) := by decide +kernel
theorem dX12_steps_254 : decode cX12_steps 254 = .ok (.iconst 0, 1) := by decide +kernel
theorem dX12_steps_255 : decode cX12_steps 255 = .ok (.istore 6, 2) := by decide +kernel
theorem dX12_steps_257 : decode cX12_steps 257 = .ok (.iload 6, 2) := by decide +kernel
theorem dX12_steps_259 : decode cX12_steps 259 = .ok (.aload_n 0, 1) := by decide +kernel
theorem dX12_steps_260 : decode cX12_steps 260 = .ok (.getfield 62, 3) := by decide +kernel
theorem dX12_steps_263 : decode cX12_steps 263 = .ok (.arraylength, 1) := by decide +kernel
theorem dX12_steps_264 : decode cX12_steps 264 = .ok (.if_icmp .ge 23, 3) := by decide +kernel
theorem dX12_steps_267 : decode cX12_steps 267 = .ok (.aload_n 0, 1) := by decide +kernel
theorem dX12_steps_268 : decode cX12_steps 268 = .ok (.getfield 62, 3) := by decide +kernel
theorem dX12_steps_271 : decode cX12_steps 271 = .ok (.iload 6, 2) := by decide +kernel
theorem dX12_steps_273 : decode cX12_steps 273 = .ok (.aload_n 0, 1) := by decide +kernel
theorem dX12_steps_274 : decode cX12_steps 274 = .ok (.getfield 65, 3) := by decide +kernel
theorem dX12_steps_277 : decode cX12_steps 277 = .ok (.iload 6, 2) := by decide +kernel
theorem dX12_steps_279 : decode cX12_steps 279 = .ok (.iaload, 1) := by decide +kernel
theorem dX12_steps_280 : decode cX12_steps 280 = .ok (.iastore, 1) := by decide +kernel
theorem dX12_steps_281 : decode cX12_steps 281 = .ok (.iinc 6 1, 3) := by decide +kernel
theorem dX12_steps_284 : decode cX12_steps 284 = .ok (.goto (-27), 3) := by decide +kernel
theorem dX12_steps_287 : decode cX12_steps 287 = .ok (.iload 5, 2) := by decide +kernel
theorem dX12_steps_289 : decode cX12_steps 289 = .ok (.ireturn, 1) := by decide +kernel
theorem dX12_divides_0 : decode cX12_divides 0 = .ok (.aload_n 0, 1) := by decide +kernel
theorem dX12_divides_1 : decode cX12_divides 1 = .ok (.invokevirtual 236, 3) := by decide +kernel
theorem dX12_divides_4 : decode cX12_divides 4 = .ok (.istore_n 1, 1) := by decide +kernel
theorem dX12_divides_5 : decode cX12_divides 5 = .ok (.iconst 0, 1) := by decide +kernel
theorem dX12_divides_6 : decode cX12_divides 6 = .ok (.istore_n 2, 1) := by decide +kernel
theorem dX12_divides_7 : decode cX12_divides 7 = .ok (.iload_n 2, 1) := by decide +kernel
theorem dX12_divides_8 : decode cX12_divides 8 = .ok (.aload_n 0, 1) := by decide +kernel
theorem dX12_divides_9 : decode cX12_divides 9 = .ok (.getfield 62, 3) := by decide +kernel
theorem dX12_divides_12 : decode cX12_divides 12 = .ok (.arraylength, 1) := by decide +kernel
theorem dX12_divides_13 : decode cX12_divides 13 = .ok (.if_icmp .ge 16, 3) := by decide +kernel
theorem dX12_divides_16 : decode cX12_divides 16 = .ok (.aload_n 0, 1) := by decide +kernel
theorem dX12_divides_17 : decode cX12_divides 17 = .ok (.getfield 62, 3) := by decide +kernel
theorem dX12_divides_20 : decode cX12_divides 20 = .ok (.iload_n 2, 1) := by decide +kernel
theorem dX12_divides_21 : decode cX12_divides 21 = .ok (.iconst 0, 1) := by decide +kernel
theorem dX12_divides_22 : decode cX12_divides 22 = .ok (.iastore, 1) := by decide +kernel
theorem dX12_divides_23 : decode cX12_divides 23 = .ok (.iinc 2 1, 3) := by decide +kernel
theorem dX12_divides_26 : decode cX12_divides 26 = .ok (.goto (-19), 3) := by decide +kernel
theorem dX12_divides_29 : decode cX12_divides 29 = .ok (.iconst 0, 1) := by decide +kernel
theorem dX12_divides_30 : decode cX12_divides 30 = .ok (.istore_n 2, 1) := by decide +kernel
theorem dX12_divides_31 : decode cX12_divides 31 = .ok (.iload_n 2, 1) := by decide +kernel
theorem dX12_divides_32 : decode cX12_divides 32 = .ok (.aload_n 0, 1) := by decide +kernel
theorem dX12_divides_33 : decode cX12_divides 33 = .ok (.getfield 59, 3) := by decide +kernel
theorem dX12_divides_36 : decode cX12_divides 36 = .ok (.arraylength, 1) := by decide +kernel
theorem dX12_divides_37 : decode cX12_divides 37 = .ok (.if_icmp .ge 16, 3) := by decide +kernel
theorem dX12_divides_40 : decode cX12_divides 40 = .ok (.aload_n 0, 1) := by decide +kernel
theorem dX12_divides_41 : decode cX12_divides 41 = .ok (.getfield 59, 3) := by decide +kernel
theorem dX12_divides_44 : decode cX12_divides 44 = .ok (.iload_n 2, 1) := by decide +kernel
theorem dX12_divides_45 : decode cX12_divides 45 = .ok (.iconst 0, 1) := by decide +kernel
theorem dX12_divides_46 : decode cX12_divides 46 = .ok (.iastore, 1) := by decide +kernel
theorem dX12_divides_47 : decode cX12_divides 47 = .ok (.iinc 2 1, 3) := by decide +kernel
theorem dX12_divides_50 : decode cX12_divides 50 = .ok (.goto (-19), 3) := by decide +kernel
theorem dX12_divides_53 : decode cX12_divides 53 = .ok (.bipush 40, 2) := by decide +kernel
theorem dX12_divides_55 : decode cX12_divides 55 = .ok (.istore_n 2, 1) := by decide +kernel
theorem dX12_divides_56 : decode cX12_divides 56 = .ok (.iload_n 2, 1) := by decide +kernel
theorem dX12_divides_57 : decode cX12_divides 57 = .ok (.ifCond .lt 32, 3) := by decide +kernel
theorem dX12_divides_60 : decode cX12_divides 60 = .ok (.aload_n 0, 1) := by decide +kernel
theorem dX12_divides_61 : decode cX12_divides 61 = .ok (.iload_n 1, 1) := by decide +kernel
theorem dX12_divides_62 : decode cX12_divides 62 = .ok (.iload_n 2, 1) := by decide +kernel
theorem dX12_divides_63 : decode cX12_divides 63 = .ok (.invokevirtual 240, 3) := by decide +kernel
theorem dX12_divides_66 : decode cX12_divides 66 = .ok (.ifCond .ne 5, 3) := by decide +kernel
theorem dX12_divides_69 : decode cX12_divides 69 = .ok (.iconst 0, 1) := by decide +kernel
theorem dX12_divides_70 : decode cX12_divides 70 = .ok (.ireturn, 1) := by decide +kernel
theorem dX12_divides_71 : decode cX12_divides 71 = .ok (.iload_n 2, 1) := by decide +kernel
theorem dX12_divides_72 : decode cX12_divides 72 = .ok (.ifCond .le 11, 3) := by decide +kernel
theorem dX12_divides_75 : decode cX12_divides 75 = .ok (.aload_n 0, 1) := by decide +kernel
theorem dX12_divides_76 : decode cX12_divides 76 = .ok (.iload_n 1, 1) := by decide +kernel
theorem dX12_divides_77 : decode cX12_divides 77 = .ok (.iload_n 2, 1) := by decide +kernel
theorem dX12_divides_78 : decode cX12_divides 78 = .ok (.iconst 1, 1) := by decide +kernel
theorem dX12_divides_79 : decode cX12_divides 79 = .ok (.isub, 1) := by decide +kernel
theorem dX12_divides_80 : decode cX12_divides 80 = .ok (.invokevirtual 243, 3) := by decide +kernel
theorem dX12_divides_83 : decode cX12_divides 83 = .ok (.iinc 2 (-1), 3) := by decide +kernel
theorem dX12_divides_86 : decode cX12_divides 86 = .ok (.goto (-30), 3) := by decide +kernel
theorem dX12_divides_89 : decode cX12_divides 89 = .ok (.iconst 0, 1) := by decide +kernel
theorem dX12_divides_90 : decode cX12_divides 90 = .ok (.istore_n 2, 1) := by decide +kernel
theorem dX12_divides_91 : decode cX12_divides 91 = .ok (.iload_n 2, 1) := by decide +kernel
theorem dX12_divides_92 : decode cX12_divides 92 = .ok (.aload_n 0, 1) := by decide +kernel
theorem dX12_divides_93 : decode cX12_divides 93 = .ok (.getfield 62, 3) := by decide +kernel
theorem dX12_divides_96 : decode cX12_divides 96 = .ok (.arraylength, 1) := by decide +kernel
theorem dX12_divides_97 : decode cX12_divides 97 = .ok (.if_icmp .ge 20, 3) := by decide +kernel
theorem dX12_divides_100 : decode cX12_divides 100 = .ok (.aload_n 0, 1) := by decide +kernel
theorem dX12_divides_101 : decode cX12_divides 101 = .ok (.getfield 62, 3) := by decide +kernel
theorem dX12_divides_104 : decode cX12_divides 104 = .ok (.iload_n 2, 1) := by decide +kernel
theorem dX12_divides_105 : decode cX12_divides 105 = .ok (.iaload, 1) := by decide +kernel
theorem dX12_divides_106 : decode cX12_divides 106 = .ok (.ifCond .eq 5, 3) := by decide +kernel
theorem dX12_divides_109 : decode cX12_divides 109 = .ok (.iconst 0, 1) := by decide +kernel
theorem dX12_divides_110 : decode cX12_divides 110 = .ok (.ireturn, 1) := by decide +kernel
theorem dX12_divides_111 : decode cX12_divides 111 = .ok (.iinc 2 1, 3) := by decide +kernel
theorem dX12_divides_114 : decode cX12_divides 114 = .ok (.goto (-23), 3) := by decide +kernel
theorem dX12_divides_117 : decode cX12_divides 117 = .ok (.iconst 0, 1) := by decide +kernel
theorem dX12_divides_118 : decode cX12_divides 118 = .ok (.istore_n 2, 1) := by decide +kernel
theorem dX12_divides_119 : decode cX12_divides 119 = .ok (.iload_n 2, 1) := by decide +kernel
theorem dX12_divides_120 : decode cX12_divides 120 = .ok (.aload_n 0, 1) := by decide +kernel
theorem dX12_divides_121 : decode cX12_divides 121 = .ok (.getfield 56, 3) := by decide +kernel
theorem dX12_divides_124 : decode cX12_divides 124 = .ok (.arraylength, 1) := by decide +kernel
theorem dX12_divides_125 : decode cX12_divides 125 = .ok (.if_icmp .ge 21, 3) := by decide +kernel
theorem dX12_divides_128 : decode cX12_divides 128 = .ok (.aload_n 0, 1) := by decide +kernel
theorem dX12_divides_129 : decode cX12_divides 129 = .ok (.getfield 56, 3) := by decide +kernel
theorem dX12_divides_132 : decode cX12_divides 132 = .ok (.iload_n 2, 1) := by decide +kernel
theorem dX12_divides_133 : decode cX12_divides 133 = .ok (.aload_n 0, 1) := by decide +kernel
theorem dX12_divides_134 : decode cX12_divides 134 = .ok (.getfield 59, 3) := by decide +kernel
theorem dX12_divides_137 : decode cX12_divides 137 = .ok (.iload_n 2, 1) := by decide +kernel
theorem dX12_divides_138 : decode cX12_divides 138 = .ok (.iaload, 1) := by decide +kernel
theorem dX12_divides_139 : decode cX12_divides 139 = .ok (.iastore, 1) := by decide +kernel
theorem dX12_divides_140 : decode cX12_divides 140 = .ok (.iinc 2 1, 3) := by decide +kernel
theorem dX12_divides_143 : decode cX12_divides 143 = .ok (.goto (-24), 3) := by decide +kernel
theorem dX12_divides_146 : decode cX12_divides 146 = .ok (.iconst 1, 1) := by decide +kernel
theorem dX12_divides_147 : decode cX12_divides 147 = .ok (.ireturn, 1) := by decide +kernel
theorem dX12_layRow_0 : decode cX12_layRow 0 = .ok (.iconst 0, 1) := by decide +kernel
theorem dX12_layRow_1 : decode cX12_layRow 1 = .ok (.istore_n 3, 1) := by decide +kernel
theorem dX12_layRow_2 : decode cX12_layRow 2 = .ok (.iload_n 3, 1) := by decide +kernel
theorem dX12_layRow_3 : decode cX12_layRow 3 = .ok (.bipush 41, 2) := by decide +kernel
theorem dX12_layRow_5 : decode cX12_layRow 5 = .ok (.if_icmp .ge 50, 3) := by decide +kernel
theorem dX12_layRow_8 : decode cX12_layRow 8 = .ok (.iconst 0, 1) := by decide +kernel
theorem dX12_layRow_9 : decode cX12_layRow 9 = .ok (.istore 4, 2) := by decide +kernel
theorem dX12_layRow_11 : decode cX12_layRow 11 = .ok (.iload 4, 2) := by decide +kernel
theorem dX12_layRow_13 : decode cX12_layRow 13 = .ok (.bipush 41, 2) := by decide +kernel
theorem dX12_layRow_15 : decode cX12_layRow 15 = .ok (.if_icmp .ge 34, 3) := by decide +kernel
theorem dX12_layRow_18 : decode cX12_layRow 18 = .ok (.aload_n 0, 1) := by decide +kernel
theorem dX12_layRow_19 : decode cX12_layRow 19 = .ok (.getfield 59, 3) := by decide +kernel
theorem dX12_layRow_22 : decode cX12_layRow 22 = .ok (.iload_n 1, 1) := by decide +kernel
theorem dX12_layRow_23 : decode cX12_layRow 23 = .ok (.iload_n 2, 1) := by decide +kernel
theorem dX12_layRow_24 : decode cX12_layRow 24 = .ok (.iload_n 3, 1) := by decide +kernel
theorem dX12_layRow_25 : decode cX12_layRow 25 = .ok (.iload 4, 2) := by decide +kernel
theorem dX12_layRow_27 : decode cX12_layRow 27 = .ok (.invokestatic 233, 3) := by decide +kernel
theorem dX12_layRow_30 : decode cX12_layRow 30 = .ok (.aload_n 0, 1) := by decide +kernel
theorem dX12_layRow_31 : decode cX12_layRow 31 = .ok (.getfield 62, 3) := by decide +kernel
theorem dX12_layRow_34 : decode cX12_layRow 34 = .ok (.iload_n 3, 1) := by decide +kernel
theorem dX12_layRow_35 : decode cX12_layRow 35 = .ok (.bipush 42, 2) := by decide +kernel
theorem dX12_layRow_37 : decode cX12_layRow 37 = .ok (.imul, 1) := by decide +kernel
theorem dX12_layRow_38 : decode cX12_layRow 38 = .ok (.iload 4, 2) := by decide +kernel
theorem dX12_layRow_40 : decode cX12_layRow 40 = .ok (.iadd, 1) := by decide +kernel
theorem dX12_layRow_41 : decode cX12_layRow 41 = .ok (.iaload, 1) := by decide +kernel
theorem dX12_layRow_42 : decode cX12_layRow 42 = .ok (.iastore, 1) := by decide +kernel
theorem dX12_layRow_43 : decode cX12_layRow 43 = .ok (.iinc 4 1, 3) := by decide +kernel
theorem dX12_layRow_46 : decode cX12_layRow 46 = .ok (.goto (-35), 3) := by decide +kernel
theorem dX12_layRow_49 : decode cX12_layRow 49 = .ok (.iinc 3 1, 3) := by decide +kernel
theorem dX12_layRow_52 : decode cX12_layRow 52 = .ok (.goto (-50), 3) := by decide +kernel
theorem dX12_layRow_55 : decode cX12_layRow 55 = .ok (.return_, 1) := by decide +kernel
theorem dX12_oftenOf_0 : decode cX12_oftenOf 0 = .ok (.aload_n 0, 1) := by decide +kernel
theorem dX12_oftenOf_1 : decode cX12_oftenOf 1 = .ok (.invokevirtual 246, 3) := by decide +kernel
theorem dX12_oftenOf_4 : decode cX12_oftenOf 4 = .ok (.ifCond .ne 5, 3) := by decide +kernel
theorem dX12_oftenOf_7 : decode cX12_oftenOf 7 = .ok (.iconst 0, 1) := by decide +kernel
theorem dX12_oftenOf_8 : decode cX12_oftenOf 8 = .ok (.ireturn, 1) := by decide +kernel
theorem dX12_oftenOf_9 : decode cX12_oftenOf 9 = .ok (.aload_n 0, 1) := by decide +kernel
theorem dX12_oftenOf_10 : decode cX12_oftenOf 10 = .ok (.iload_n 1, 1) := by decide +kernel
theorem dX12_oftenOf_11 : decode cX12_oftenOf 11 = .ok (.invokevirtual 250, 3) := by decide +kernel
theorem dX12_oftenOf_14 : decode cX12_oftenOf 14 = .ok (.iconst 0, 1) := by decide +kernel
theorem dX12_oftenOf_15 : decode cX12_oftenOf 15 = .ok (.istore_n 2, 1) := by decide +kernel
theorem dX12_oftenOf_16 : decode cX12_oftenOf 16 = .ok (.aload_n 0, 1) := by decide +kernel
theorem dX12_oftenOf_17 : decode cX12_oftenOf 17 = .ok (.invokevirtual 253, 3) := by decide +kernel
theorem dX12_oftenOf_20 : decode cX12_oftenOf 20 = .ok (.ifCond .eq 9, 3) := by decide +kernel
theorem dX12_oftenOf_23 : decode cX12_oftenOf 23 = .ok (.iinc 2 1, 3) := by decide +kernel
theorem dX12_oftenOf_26 : decode cX12_oftenOf 26 = .ok (.goto (-10), 3) := by decide +kernel
theorem dX12_oftenOf_29 : decode cX12_oftenOf 29 = .ok (.iload_n 2, 1) := by decide +kernel
theorem dX12_oftenOf_30 : decode cX12_oftenOf 30 = .ok (.ireturn, 1) := by decide +kernel
theorem dX12_rest_0 : decode cX12_rest 0 = .ok (.aload_n 0, 1) := by decide +kernel
theorem dX12_rest_1 : decode cX12_rest 1 = .ok (.iload_n 2, 1) := by decide +kernel
theorem dX12_rest_2 : decode cX12_rest 2 = .ok (.invokevirtual 256, 3) := by decide +kernel
theorem dX12_rest_5 : decode cX12_rest 5 = .ok (.aload_n 0, 1) := by decide +kernel
theorem dX12_rest_6 : decode cX12_rest 6 = .ok (.iload_n 2, 1) := by decide +kernel
theorem dX12_rest_7 : decode cX12_rest 7 = .ok (.invokevirtual 250, 3) := by decide +kernel
theorem dX12_rest_10 : decode cX12_rest 10 = .ok (.aload_n 0, 1) := by decide +kernel
theorem dX12_rest_11 : decode cX12_rest 11 = .ok (.invokevirtual 259, 3) := by decide +kernel
theorem dX12_rest_14 : decode cX12_rest 14 = .ok (.istore_n 3, 1) := by decide +kernel
theorem dX12_rest_15 : decode cX12_rest 15 = .ok (.iconst 0, 1) := by decide +kernel
theorem dX12_rest_16 : decode cX12_rest 16 = .ok (.istore 4, 2) := by decide +kernel
theorem dX12_rest_18 : decode cX12_rest 18 = .ok (.iload 4, 2) := by decide +kernel
theorem dX12_rest_20 : decode cX12_rest 20 = .ok (.iload_n 3, 1) := by decide +kernel
theorem dX12_rest_21 : decode cX12_rest 21 = .ok (.if_icmp .ge 42, 3) := by decide +kernel
theorem dX12_rest_24 : decode cX12_rest 24 = .ok (.aload_n 0, 1) := by decide +kernel
theorem dX12_rest_25 : decode cX12_rest 25 = .ok (.iload 4, 2) := by decide +kernel
theorem dX12_rest_27 : decode cX12_rest 27 = .ok (.invokevirtual 262, 3) := by decide +kernel
theorem dX12_rest_30 : decode cX12_rest 30 = .ok (.aload_n 0, 1) := by decide +kernel
theorem dX12_rest_31 : decode cX12_rest 31 = .ok (.invokevirtual 246, 3) := by decide +kernel
theorem dX12_rest_34 : decode cX12_rest 34 = .ok (.ifCond .ne 6, 3) := by decide +kernel
theorem dX12_rest_37 : decode cX12_rest 37 = .ok (.goto 20, 3) := by decide +kernel
theorem dX12_rest_40 : decode cX12_rest 40 = .ok (.iconst 1, 1) := by decide +kernel
theorem dX12_rest_41 : decode cX12_rest 41 = .ok (.istore 5, 2) := by decide +kernel
theorem dX12_rest_43 : decode cX12_rest 43 = .ok (.iload 5, 2) := by decide +kernel
theorem dX12_rest_45 : decode cX12_rest 45 = .ok (.ifCond .eq 12, 3) := by decide +kernel
theorem dX12_rest_48 : decode cX12_rest 48 = .ok (.aload_n 0, 1) := by decide +kernel
theorem dX12_rest_49 : decode cX12_rest 49 = .ok (.invokevirtual 253, 3) := by decide +kernel
theorem dX12_rest_52 : decode cX12_rest 52 = .ok (.istore 5, 2) := by decide +kernel
theorem dX12_rest_54 : decode cX12_rest 54 = .ok (.goto (-11), 3) := by decide +kernel
theorem dX12_rest_57 : decode cX12_rest 57 = .ok (.iinc 4 1, 3) := by decide +kernel
theorem dX12_rest_60 : decode cX12_rest 60 = .ok (.goto (-42), 3) := by decide +kernel
theorem dX12_rest_63 : decode cX12_rest 63 = .ok (.iconst 0, 1) := by decide +kernel
theorem dX12_rest_64 : decode cX12_rest 64 = .ok (.istore 4, 2) := by decide +kernel
theorem dX12_rest_66 : decode cX12_rest 66 = .ok (.iconst 0, 1) := by decide +kernel
theorem dX12_rest_67 : decode cX12_rest 67 = .ok (.istore 5, 2) := by decide +kernel
theorem dX12_rest_69 : decode cX12_rest 69 = .ok (.iload 5, 2) := by decide +kernel
theorem dX12_rest_71 : decode cX12_rest 71 = .ok (.aload_n 0, 1) := by decide +kernel
theorem dX12_rest_72 : decode cX12_rest 72 = .ok (.getfield 56, 3) := by decide +kernel
theorem dX12_rest_75 : decode cX12_rest 75 = .ok (.arraylength, 1) := by decide +kernel
theorem dX12_rest_76 : decode cX12_rest 76 = .ok (.if_icmp .ge 74, 3) := by decide +kernel
theorem dX12_rest_79 : decode cX12_rest 79 = .ok (.aload_n 0, 1) := by decide +kernel
theorem dX12_rest_80 : decode cX12_rest 80 = .ok (.getfield 56, 3) := by decide +kernel
theorem dX12_rest_83 : decode cX12_rest 83 = .ok (.iload 5, 2) := by decide +kernel
theorem dX12_rest_85 : decode cX12_rest 85 = .ok (.iaload, 1) := by decide +kernel
theorem dX12_rest_86 : decode cX12_rest 86 = .ok (.ifCond .ne 6, 3) := by decide +kernel
theorem dX12_rest_89 : decode cX12_rest 89 = .ok (.goto 55, 3) := by decide +kernel
theorem dX12_rest_92 : decode cX12_rest 92 = .ok (.iinc 4 1, 3) := by decide +kernel
theorem dX12_rest_95 : decode cX12_rest 95 = .ok (.iload 4, 2) := by decide +kernel
theorem dX12_rest_97 : decode cX12_rest 97 = .ok (.sipush 300, 3) := by decide +kernel
theorem dX12_rest_100 : decode cX12_rest 100 = .ok (.if_icmp .le 5, 3) := by decide +kernel
theorem dX12_rest_103 : decode cX12_rest 103 = .ok (.iconst 0, 1) := by decide +kernel
theorem dX12_rest_104 : decode cX12_rest 104 = .ok (.ireturn, 1) := by decide +kernel
theorem dX12_rest_105 : decode cX12_rest 105 = .ok (.aload_n 0, 1) := by decide +kernel
theorem dX12_rest_106 : decode cX12_rest 106 = .ok (.getfield 17, 3) := by decide +kernel
theorem dX12_rest_109 : decode cX12_rest 109 = .ok (.sipush 300, 3) := by decide +kernel
theorem dX12_rest_112 : decode cX12_rest 112 = .ok (.iload_n 1, 1) := by decide +kernel
theorem dX12_rest_113 : decode cX12_rest 113 = .ok (.imul, 1) := by decide +kernel
theorem dX12_rest_114 : decode cX12_rest 114 = .ok (.iload 4, 2) := by decide +kernel
theorem dX12_rest_116 : decode cX12_rest 116 = .ok (.iadd, 1) := by decide +kernel
theorem dX12_rest_117 : decode cX12_rest 117 = .ok (.iconst 1, 1) := by decide +kernel
theorem dX12_rest_118 : decode cX12_rest 118 = .ok (.isub, 1) := by decide +kernel
theorem dX12_rest_119 : decode cX12_rest 119 = .ok (.iload 5, 2) := by decide +kernel
theorem dX12_rest_121 : decode cX12_rest 121 = .ok (.iastore, 1) := by decide +kernel
theorem dX12_rest_122 : decode cX12_rest 122 = .ok (.aload_n 0, 1) := by decide +kernel
theorem dX12_rest_123 : decode cX12_rest 123 = .ok (.getfield 20, 3) := by decide +kernel
theorem dX12_rest_126 : decode cX12_rest 126 = .ok (.sipush 300, 3) := by decide +kernel
theorem dX12_rest_129 : decode cX12_rest 129 = .ok (.iload_n 1, 1) := by decide +kernel
theorem dX12_rest_130 : decode cX12_rest 130 = .ok (.imul, 1) := by decide +kernel
theorem dX12_rest_131 : decode cX12_rest 131 = .ok (.iload 4, 2) := by decide +kernel
theorem dX12_rest_133 : decode cX12_rest 133 = .ok (.iadd, 1) := by decide +kernel
theorem dX12_rest_134 : decode cX12_rest 134 = .ok (.iconst 1, 1) := by decide +kernel
theorem dX12_rest_135 : decode cX12_rest 135 = .ok (.isub, 1) := by decide +kernel
theorem dX12_rest_136 : decode cX12_rest 136 = .ok (.aload_n 0, 1) := by decide +kernel
theorem dX12_rest_137 : decode cX12_rest 137 = .ok (.getfield 56, 3) := by decide +kernel
theorem dX12_rest_140 : decode cX12_rest 140 = .ok (.iload 5, 2) := by decide +kernel
theorem dX12_rest_142 : decode cX12_rest 142 = .ok (.iaload, 1) := by decide +kernel
theorem dX12_rest_143 : decode cX12_rest 143 = .ok (.iastore, 1) := by decide +kernel
theorem dX12_rest_144 : decode cX12_rest 144 = .ok (.iinc 5 1, 3) := by decide +kernel
theorem dX12_rest_147 : decode cX12_rest 147 = .ok (.goto (-78), 3) := by decide +kernel
theorem dX12_rest_150 : decode cX12_rest 150 = .ok (.aload_n 0, 1) := by decide +kernel
theorem dX12_rest_151 : decode cX12_rest 151 = .ok (.getfield 13, 3) := by decide +kernel
theorem dX12_rest_154 : decode cX12_rest 154 = .ok (.iload_n 1, 1) := by decide +kernel
theorem dX12_rest_155 : decode cX12_rest 155 = .ok (.iload 4, 2) := by decide +kernel
theorem dX12_rest_157 : decode cX12_rest 157 = .ok (.iastore, 1) := by decide +kernel
theorem dX12_rest_158 : decode cX12_rest 158 = .ok (.iconst 1, 1) := by decide +kernel
theorem dX12_rest_159 : decode cX12_rest 159 = .ok (.ireturn, 1) := by decide +kernel
theorem dX12_make_0 : decode cX12_make 0 = .ok (.aload_n 0, 1) := by decide +kernel
theorem dX12_make_1 : decode cX12_make 1 = .ok (.iconst 0, 1) := by decide +kernel
theorem dX12_make_2 : decode cX12_make 2 = .ok (.putfield 116, 3) := by decide +kernel
theorem dX12_make_5 : decode cX12_make 5 = .ok (.iload_n 1, 1) := by decide +kernel
theorem dX12_make_6 : decode cX12_make 6 = .ok (.invokestatic 265, 3) := by decide +kernel
theorem dX12_make_9 : decode cX12_make 9 = .ok (.ifCond .eq 21, 3) := by decide +kernel
theorem dX12_make_12 : decode cX12_make 12 = .ok (.iload_n 3, 1) := by decide +kernel
theorem dX12_make_13 : decode cX12_make 13 = .ok (.invokestatic 265, 3) := by decide +kernel
theorem dX12_make_16 : decode cX12_make 16 = .ok (.ifCond .eq 14, 3) := by decide +kernel
theorem dX12_make_19 : decode cX12_make 19 = .ok (.aload_n 0, 1) := by decide +kernel
theorem dX12_make_20 : decode cX12_make 20 = .ok (.iload_n 2, 1) := by decide +kernel
theorem dX12_make_21 : decode cX12_make 21 = .ok (.iload_n 3, 1) := by decide +kernel
theorem dX12_make_22 : decode cX12_make 22 = .ok (.iload 4, 2) := by decide +kernel
theorem dX12_make_24 : decode cX12_make 24 = .ok (.invokevirtual 268, 3) := by decide +kernel
theorem dX12_make_27 : decode cX12_make 27 = .ok (.ifCond .ne 5, 3) := by decide +kernel
theorem dX12_make_30 : decode cX12_make 30 = .ok (.iconst (-1), 1) := by decide +kernel
theorem dX12_make_31 : decode cX12_make 31 = .ok (.ireturn, 1) := by decide +kernel
theorem dX12_make_32 : decode cX12_make 32 = .ok (.aload_n 0, 1) := by decide +kernel
theorem dX12_make_33 : decode cX12_make 33 = .ok (.bipush 54, 2) := by decide +kernel
theorem dX12_make_35 : decode cX12_make 35 = .ok (.iload_n 2, 1) := by decide +kernel
theorem dX12_make_36 : decode cX12_make 36 = .ok (.iload_n 3, 1) := by decide +kernel
theorem dX12_make_37 : decode cX12_make 37 = .ok (.iload 4, 2) := by decide +kernel
theorem dX12_make_39 : decode cX12_make 39 = .ok (.invokevirtual 271, 3) := by decide +kernel
theorem dX12_make_42 : decode cX12_make 42 = .ok (.ifCond .eq 13, 3) := by decide +kernel
theorem dX12_make_45 : decode cX12_make 45 = .ok (.aload_n 0, 1) := by decide +kernel
theorem dX12_make_46 : decode cX12_make 46 = .ok (.iload_n 1, 1) := by decide +kernel
theorem dX12_make_47 : decode cX12_make 47 = .ok (.bipush 54, 2) := by decide +kernel
theorem dX12_make_49 : decode cX12_make 49 = .ok (.invokevirtual 275, 3) := by decide +kernel
theorem dX12_make_52 : decode cX12_make 52 = .ok (.goto 5, 3) := by decide +kernel
theorem dX12_make_55 : decode cX12_make 55 = .ok (.bipush (-2), 2) := by decide +kernel
theorem dX12_make_57 : decode cX12_make 57 = .ok (.ireturn, 1) := by decide +kernel
theorem dX12_isPlace_0 : decode cX12_isPlace 0 = .ok (.iload_n 0, 1) := by decide +kernel
theorem dX12_isPlace_1 : decode cX12_isPlace 1 = .ok (.iconst 0, 1) := by decide +kernel
theorem dX12_isPlace_2 : decode cX12_isPlace 2 = .ok (.iconst 5, 1) := by decide +kernel
theorem dX12_isPlace_3 : decode cX12_isPlace 3 = .ok (.invokestatic 181, 3) := by decide +kernel
theorem dX12_isPlace_6 : decode cX12_isPlace 6 = .ok (.ireturn, 1) := by decide +kernel
theorem dX12_mayMake_0 : decode cX12_mayMake 0 = .ok (.iload_n 1, 1) := by decide +kernel
theorem dX12_mayMake_1 : decode cX12_mayMake 1 = .ok (.tableswitch 125 0 8 #[51, 51, 51, 56, 63, 71, 79, 81, 96], 51) := by decide +kernel
theorem dX12_mayMake_52 : decode cX12_mayMake 52 = .ok (.iload_n 3, 1) := by decide +kernel
theorem dX12_mayMake_53 : decode cX12_mayMake 53 = .ok (.invokestatic 265, 3) := by decide +kernel
theorem dX12_mayMake_56 : decode cX12_mayMake 56 = .ok (.ireturn, 1) := by decide +kernel
theorem dX12_mayMake_57 : decode cX12_mayMake 57 = .ok (.iload_n 3, 1) := by decide +kernel
theorem dX12_mayMake_58 : decode cX12_mayMake 58 = .ok (.iconst 0, 1) := by decide +kernel
theorem dX12_mayMake_59 : decode cX12_mayMake 59 = .ok (.iconst 2, 1) := by decide +kernel
theorem dX12_mayMake_60 : decode cX12_mayMake 60 = .ok (.invokestatic 181, 3) := by decide +kernel
theorem dX12_mayMake_63 : decode cX12_mayMake 63 = .ok (.ireturn, 1) := by decide +kernel
theorem dX12_mayMake_64 : decode cX12_mayMake 64 = .ok (.iload_n 3, 1) := by decide +kernel
theorem dX12_mayMake_65 : decode cX12_mayMake 65 = .ok (.iconst 0, 1) := by decide +kernel
theorem dX12_mayMake_66 : decode cX12_mayMake 66 = .ok (.bipush 9, 2) := by decide +kernel
theorem dX12_mayMake_68 : decode cX12_mayMake 68 = .ok (.invokestatic 181, 3) := by decide +kernel
theorem dX12_mayMake_71 : decode cX12_mayMake 71 = .ok (.ireturn, 1) := by decide +kernel
theorem dX12_mayMake_72 : decode cX12_mayMake 72 = .ok (.iload_n 3, 1) := by decide +kernel
theorem dX12_mayMake_73 : decode cX12_mayMake 73 = .ok (.iconst 0, 1) := by decide +kernel
theorem dX12_mayMake_74 : decode cX12_mayMake 74 = .ok (.bipush 120, 2) := by decide +kernel
theorem dX12_mayMake_76 : decode cX12_mayMake 76 = .ok (.invokestatic 181, 3) := by decide +kernel
theorem dX12_mayMake_79 : decode cX12_mayMake 79 = .ok (.ireturn, 1) := by decide +kernel
theorem dX12_mayMake_80 : decode cX12_mayMake 80 = .ok (.iconst 1, 1) := by decide +kernel
theorem dX12_mayMake_81 : decode cX12_mayMake 81 = .ok (.ireturn, 1) := by decide +kernel
theorem dX12_mayMake_82 : decode cX12_mayMake 82 = .ok (.aload_n 0, 1) := by decide +kernel
theorem dX12_mayMake_83 : decode cX12_mayMake 83 = .ok (.getfield 13, 3) := by decide +kernel
theorem dX12_mayMake_86 : decode cX12_mayMake 86 = .ok (.iload_n 2, 1) := by decide +kernel
theorem dX12_mayMake_87 : decode cX12_mayMake 87 = .ok (.iaload, 1) := by decide +kernel
theorem dX12_mayMake_88 : decode cX12_mayMake 88 = .ok (.ifCond .le 7, 3) := by decide +kernel
theorem dX12_mayMake_91 : decode cX12_mayMake 91 = .ok (.iconst 1, 1) := by decide +kernel
theorem dX12_mayMake_92 : decode cX12_mayMake 92 = .ok (.goto 4, 3) := by decide +kernel
theorem dX12_mayMake_95 : decode cX12_mayMake 95 = .ok (.iconst 0, 1) := by decide +kernel
theorem dX12_mayMake_96 : decode cX12_mayMake 96 = .ok (.ireturn, 1) := by decide +kernel
theorem dX12_mayMake_97 : decode cX12_mayMake 97 = .ok (.iload_n 3, 1) := by decide +kernel
theorem dX12_mayMake_98 : decode cX12_mayMake 98 = .ok (.invokestatic 265, 3) := by decide +kernel
theorem dX12_mayMake_101 : decode cX12_mayMake 101 = .ok (.ifCond .eq 23, 3) := by decide +kernel
theorem dX12_mayMake_104 : decode cX12_mayMake 104 = .ok (.aload_n 0, 1) := by decide +kernel
theorem dX12_mayMake_105 : decode cX12_mayMake 105 = .ok (.iload_n 2, 1) := by decide +kernel
theorem dX12_mayMake_106 : decode cX12_mayMake 106 = .ok (.invokevirtual 278, 3) := by decide +kernel
theorem dX12_mayMake_109 : decode cX12_mayMake 109 = .ok (.ifCond .eq 15, 3) := by decide +kernel
theorem dX12_mayMake_112 : decode cX12_mayMake 112 = .ok (.aload_n 0, 1) := by decide +kernel
theorem dX12_mayMake_113 : decode cX12_mayMake 113 = .ok (.iload_n 3, 1) := by decide +kernel
theorem dX12_mayMake_114 : decode cX12_mayMake 114 = .ok (.invokevirtual 278, 3) := by decide +kernel
theorem dX12_mayMake_117 : decode cX12_mayMake 117 = .ok (.ifCond .eq 7, 3) := by decide +kernel
theorem dX12_mayMake_120 : decode cX12_mayMake 120 = .ok (.iconst 1, 1) := by decide +kernel
theorem dX12_mayMake_121 : decode cX12_mayMake 121 = .ok (.goto 4, 3) := by decide +kernel
theorem dX12_mayMake_124 : decode cX12_mayMake 124 = .ok (.iconst 0, 1) := by decide +kernel
theorem dX12_mayMake_125 : decode cX12_mayMake 125 = .ok (.ireturn, 1) := by decide +kernel
theorem dX12_mayMake_126 : decode cX12_mayMake 126 = .ok (.iload_n 1, 1) := by decide +kernel
theorem dX12_mayMake_127 : decode cX12_mayMake 127 = .ok (.bipush 9, 2) := by decide +kernel
theorem dX12_mayMake_129 : decode cX12_mayMake 129 = .ok (.if_icmp .ne 16, 3) := by decide +kernel
theorem dX12_mayMake_132 : decode cX12_mayMake 132 = .ok (.iload_n 3, 1) := by decide +kernel
theorem dX12_mayMake_133 : decode cX12_mayMake 133 = .ok (.iconst 0, 1) := by decide +kernel
theorem dX12_mayMake_134 : decode cX12_mayMake 134 = .ok (.iconst 5, 1) := by decide +kernel
theorem dX12_mayMake_135 : decode cX12_mayMake 135 = .ok (.invokestatic 181, 3) := by decide +kernel
theorem dX12_mayMake_138 : decode cX12_mayMake 138 = .ok (.ifCond .eq 7, 3) := by decide +kernel
theorem dX12_mayMake_141 : decode cX12_mayMake 141 = .ok (.iconst 1, 1) := by decide +kernel
theorem dX12_mayMake_142 : decode cX12_mayMake 142 = .ok (.goto 4, 3) := by decide +kernel
theorem dX12_mayMake_145 : decode cX12_mayMake 145 = .ok (.iconst 0, 1) := by decide +kernel
theorem dX12_mayMake_146 : decode cX12_mayMake 146 = .ok (.ireturn, 1) := by decide +kernel
theorem dX12_makes_0 : decode cX12_makes 0 = .ok (.iload_n 2, 1) := by decide +kernel
theorem dX12_makes_1 : decode cX12_makes 1 = .ok (.tableswitch 130 0 8 #[51, 61, 71, 80, 89, 98, 107, 114, 121], 51) := by decide +kernel
theorem dX12_makes_52 : decode cX12_makes 52 = .ok (.aload_n 0, 1) := by decide +kernel
theorem dX12_makes_53 : decode cX12_makes 53 = .ok (.iload_n 1, 1) := by decide +kernel
theorem dX12_makes_54 : decode cX12_makes 54 = .ok (.iload_n 3, 1) := by decide +kernel
theorem dX12_makes_55 : decode cX12_makes 55 = .ok (.iload 4, 2) := by decide +kernel
theorem dX12_makes_57 : decode cX12_makes 57 = .ok (.iconst 1, 1) := by decide +kernel
theorem dX12_makes_58 : decode cX12_makes 58 = .ok (.invokevirtual 281, 3) := by decide +kernel
theorem dX12_makes_61 : decode cX12_makes 61 = .ok (.ireturn, 1) := by decide +kernel
theorem dX12_makes_62 : decode cX12_makes 62 = .ok (.aload_n 0, 1) := by decide +kernel
theorem dX12_makes_63 : decode cX12_makes 63 = .ok (.iload_n 1, 1) := by decide +kernel
theorem dX12_makes_64 : decode cX12_makes 64 = .ok (.iload_n 3, 1) := by decide +kernel
theorem dX12_makes_65 : decode cX12_makes 65 = .ok (.iload 4, 2) := by decide +kernel
theorem dX12_makes_67 : decode cX12_makes 67 = .ok (.iconst (-1), 1) := by decide +kernel
theorem dX12_makes_68 : decode cX12_makes 68 = .ok (.invokevirtual 281, 3) := by decide +kernel
theorem dX12_makes_71 : decode cX12_makes 71 = .ok (.ireturn, 1) := by decide +kernel
theorem dX12_makes_72 : decode cX12_makes 72 = .ok (.aload_n 0, 1) := by decide +kernel
theorem dX12_makes_73 : decode cX12_makes 73 = .ok (.iload_n 1, 1) := by decide +kernel
theorem dX12_makes_74 : decode cX12_makes 74 = .ok (.iload_n 3, 1) := by decide +kernel
theorem dX12_makes_75 : decode cX12_makes 75 = .ok (.iload 4, 2) := by decide +kernel
theorem dX12_makes_77 : decode cX12_makes 77 = .ok (.invokevirtual 174, 3) := by decide +kernel
theorem dX12_makes_80 : decode cX12_makes 80 = .ok (.ireturn, 1) := by decide +kernel
theorem dX12_makes_81 : decode cX12_makes 81 = .ok (.aload_n 0, 1) := by decide +kernel
theorem dX12_makes_82 : decode cX12_makes 82 = .ok (.iload_n 1, 1) := by decide +kernel
theorem dX12_makes_83 : decode cX12_makes 83 = .ok (.iload_n 3, 1) := by decide +kernel
theorem dX12_makes_84 : decode cX12_makes 84 = .ok (.iload 4, 2) := by decide +kernel
theorem dX12_makes_86 : decode cX12_makes 86 = .ok (.invokevirtual 284, 3) := by decide +kernel
theorem dX12_makes_89 : decode cX12_makes 89 = .ok (.ireturn, 1) := by decide +kernel
theorem dX12_makes_90 : decode cX12_makes 90 = .ok (.aload_n 0, 1) := by decide +kernel
theorem dX12_makes_91 : decode cX12_makes 91 = .ok (.iload_n 1, 1) := by decide +kernel
theorem dX12_makes_92 : decode cX12_makes 92 = .ok (.iload_n 3, 1) := by decide +kernel
theorem dX12_makes_93 : decode cX12_makes 93 = .ok (.iload 4, 2) := by decide +kernel
theorem dX12_makes_95 : decode cX12_makes 95 = .ok (.invokevirtual 287, 3) := by decide +kernel
theorem dX12_makes_98 : decode cX12_makes 98 = .ok (.ireturn, 1) := by decide +kernel
theorem dX12_makes_99 : decode cX12_makes 99 = .ok (.aload_n 0, 1) := by decide +kernel
theorem dX12_makes_100 : decode cX12_makes 100 = .ok (.iload_n 1, 1) := by decide +kernel
theorem dX12_makes_101 : decode cX12_makes 101 = .ok (.iload_n 3, 1) := by decide +kernel
theorem dX12_makes_102 : decode cX12_makes 102 = .ok (.iload 4, 2) := by decide +kernel
theorem dX12_makes_104 : decode cX12_makes 104 = .ok (.invokevirtual 290, 3) := by decide +kernel
theorem dX12_makes_107 : decode cX12_makes 107 = .ok (.ireturn, 1) := by decide +kernel
theorem dX12_makes_108 : decode cX12_makes 108 = .ok (.aload_n 0, 1) := by decide +kernel
theorem dX12_makes_109 : decode cX12_makes 109 = .ok (.iload_n 1, 1) := by decide +kernel
theorem dX12_makes_110 : decode cX12_makes 110 = .ok (.iload_n 3, 1) := by decide +kernel
theorem dX12_makes_111 : decode cX12_makes 111 = .ok (.invokevirtual 293, 3) := by decide +kernel
theorem dX12_makes_114 : decode cX12_makes 114 = .ok (.ireturn, 1) := by decide +kernel
theorem dX12_makes_115 : decode cX12_makes 115 = .ok (.aload_n 0, 1) := by decide +kernel
theorem dX12_makes_116 : decode cX12_makes 116 = .ok (.iload_n 1, 1) := by decide +kernel
theorem dX12_makes_117 : decode cX12_makes 117 = .ok (.iload_n 3, 1) := by decide +kernel
theorem dX12_makes_118 : decode cX12_makes 118 = .ok (.invokevirtual 296, 3) := by decide +kernel
theorem dX12_makes_121 : decode cX12_makes 121 = .ok (.ireturn, 1) := by decide +kernel
theorem dX12_makes_122 : decode cX12_makes 122 = .ok (.aload_n 0, 1) := by decide +kernel
theorem dX12_makes_123 : decode cX12_makes 123 = .ok (.iload_n 1, 1) := by decide +kernel
theorem dX12_makes_124 : decode cX12_makes 124 = .ok (.iload_n 3, 1) := by decide +kernel
theorem dX12_makes_125 : decode cX12_makes 125 = .ok (.iload 4, 2) := by decide +kernel
theorem dX12_makes_127 : decode cX12_makes 127 = .ok (.invokevirtual 299, 3) := by decide +kernel
theorem dX12_makes_130 : decode cX12_makes 130 = .ok (.ireturn, 1) := by decide +kernel
theorem dX12_makes_131 : decode cX12_makes 131 = .ok (.aload_n 0, 1) := by decide +kernel
theorem dX12_makes_132 : decode cX12_makes 132 = .ok (.iload_n 1, 1) := by decide +kernel
theorem dX12_makes_133 : decode cX12_makes 133 = .ok (.iload_n 3, 1) := by decide +kernel
theorem dX12_makes_134 : decode cX12_makes 134 = .ok (.iload 4, 2) := by decide +kernel
theorem dX12_makes_136 : decode cX12_makes 136 = .ok (.invokevirtual 302, 3) := by decide +kernel
theorem dX12_makes_139 : decode cX12_makes 139 = .ok (.ireturn, 1) := by decide +kernel
theorem dX12_put_0 : decode cX12_put 0 = .ok (.aload_n 0, 1) := by decide +kernel
theorem dX12_put_1 : decode cX12_put 1 = .ok (.iconst 0, 1) := by decide +kernel
theorem dX12_put_2 : decode cX12_put 2 = .ok (.putfield 116, 3) := by decide +kernel
theorem dX12_put_5 : decode cX12_put 5 = .ok (.iload_n 1, 1) := by decide +kernel
theorem dX12_put_6 : decode cX12_put 6 = .ok (.invokestatic 265, 3) := by decide +kernel
theorem dX12_put_9 : decode cX12_put 9 = .ok (.ifCond .eq 27, 3) := by decide +kernel
theorem dX12_put_12 : decode cX12_put 12 = .ok (.iload_n 2, 1) := by decide +kernel
theorem dX12_put_13 : decode cX12_put 13 = .ok (.invokestatic 265, 3) := by decide +kernel
theorem dX12_put_16 : decode cX12_put 16 = .ok (.ifCond .eq 20, 3) := by decide +kernel
theorem dX12_put_19 : decode cX12_put 19 = .ok (.iload 4, 2) := by decide +kernel
theorem dX12_put_21 : decode cX12_put 21 = .ok (.invokestatic 265, 3) := by decide +kernel
theorem dX12_put_24 : decode cX12_put 24 = .ok (.ifCond .eq 12, 3) := by decide +kernel
theorem dX12_put_27 : decode cX12_put 27 = .ok (.iload_n 3, 1) := by decide +kernel
theorem dX12_put_28 : decode cX12_put 28 = .ok (.iconst 0, 1) := by decide +kernel
theorem dX12_put_29 : decode cX12_put 29 = .ok (.iconst 2, 1) := by decide +kernel
theorem dX12_put_30 : decode cX12_put 30 = .ok (.invokestatic 181, 3) := by decide +kernel
theorem dX12_put_33 : decode cX12_put 33 = .ok (.ifCond .ne 5, 3) := by decide +kernel
theorem dX12_put_36 : decode cX12_put 36 = .ok (.iconst (-1), 1) := by decide +kernel
theorem dX12_put_37 : decode cX12_put 37 = .ok (.ireturn, 1) := by decide +kernel
theorem dX12_put_38 : decode cX12_put 38 = .ok (.iconst 0, 1) := by decide +kernel
theorem dX12_put_39 : decode cX12_put 39 = .ok (.istore 5, 2) := by decide +kernel
theorem dX12_put_41 : decode cX12_put 41 = .ok (.iload 5, 2) := by decide +kernel
theorem dX12_put_43 : decode cX12_put 43 = .ok (.aload_n 0, 1) := by decide +kernel
theorem dX12_put_44 : decode cX12_put 44 = .ok (.getfield 71, 3) := by decide +kernel
theorem dX12_put_47 : decode cX12_put 47 = .ok (.arraylength, 1) := by decide +kernel
theorem dX12_put_48 : decode cX12_put 48 = .ok (.if_icmp .ge 17, 3) := by decide +kernel
theorem dX12_put_51 : decode cX12_put 51 = .ok (.aload_n 0, 1) := by decide +kernel
theorem dX12_put_52 : decode cX12_put 52 = .ok (.getfield 71, 3) := by decide +kernel
theorem dX12_put_55 : decode cX12_put 55 = .ok (.iload 5, 2) := by decide +kernel
theorem dX12_put_57 : decode cX12_put 57 = .ok (.iconst 0, 1) := by decide +kernel
theorem dX12_put_58 : decode cX12_put 58 = .ok (.iastore, 1) := by decide +kernel
theorem dX12_put_59 : decode cX12_put 59 = .ok (.iinc 5 1, 3) := by decide +kernel
theorem dX12_put_62 : decode cX12_put 62 = .ok (.goto (-21), 3) := by decide +kernel
theorem dX12_put_65 : decode cX12_put 65 = .ok (.aload_n 0, 1) := by decide +kernel
theorem dX12_put_66 : decode cX12_put 66 = .ok (.bipush 54, 2) := by decide +kernel
theorem dX12_put_68 : decode cX12_put 68 = .ok (.iconst 1, 1) := by decide +kernel
theorem dX12_put_69 : decode cX12_put 69 = .ok (.invokevirtual 171, 3) := by decide +kernel
theorem dX12_put_72 : decode cX12_put 72 = .ok (.aload_n 0, 1) := by decide +kernel
theorem dX12_put_73 : decode cX12_put 73 = .ok (.iload_n 2, 1) := by decide +kernel
theorem dX12_put_74 : decode cX12_put 74 = .ok (.iload_n 3, 1) := by decide +kernel
theorem dX12_put_75 : decode cX12_put 75 = .ok (.invokevirtual 203, 3) := by decide +kernel
theorem dX12_put_78 : decode cX12_put 78 = .ok (.istore 5, 2) := by decide +kernel
theorem dX12_put_80 : decode cX12_put 80 = .ok (.iconst 0, 1) := by decide +kernel
theorem dX12_put_81 : decode cX12_put 81 = .ok (.istore 6, 2) := by decide +kernel
theorem dX12_put_83 : decode cX12_put 83 = .ok (.iload 6, 2) := by decide +kernel
theorem dX12_put_85 : decode cX12_put 85 = .ok (.iload 5, 2) := by decide +kernel
theorem dX12_put_87 : decode cX12_put 87 = .ok (.if_icmp .gt 111, 3) := by decide +kernel
theorem dX12_put_90 : decode cX12_put 90 = .ok (.iload 6, 2) := by decide +kernel
theorem dX12_put_92 : decode cX12_put 92 = .ok (.iconst 1, 1) := by decide +kernel
theorem dX12_put_93 : decode cX12_put 93 = .ok (.if_icmp .ne 14, 3) := by decide +kernel
theorem dX12_put_96 : decode cX12_put 96 = .ok (.aload_n 0, 1) := by decide +kernel
theorem dX12_put_97 : decode cX12_put 97 = .ok (.bipush 54, 2) := by decide +kernel
theorem dX12_put_99 : decode cX12_put 99 = .ok (.iload 4, 2) := by decide +kernel
theorem dX12_put_101 : decode cX12_put 101 = .ok (.invokevirtual 168, 3) := by decide +kernel
theorem dX12_put_104 : decode cX12_put 104 = .ok (.goto 33, 3) := by decide +kernel
theorem dX12_put_107 : decode cX12_put 107 = .ok (.iload 6, 2) := by decide +kernel
theorem dX12_put_109 : decode cX12_put 109 = .ok (.iconst 1, 1) := by decide +kernel
theorem dX12_put_110 : decode cX12_put 110 = .ok (.if_icmp .le 27, 3) := by decide +kernel
theorem dX12_put_113 : decode cX12_put 113 = .ok (.aload_n 0, 1) := by decide +kernel
theorem dX12_put_114 : decode cX12_put 114 = .ok (.bipush 55, 2) := by decide +kernel
theorem dX12_put_116 : decode cX12_put 116 = .ok (.bipush 54, 2) := by decide +kernel
theorem dX12_put_118 : decode cX12_put 118 = .ok (.invokevirtual 168, 3) := by decide +kernel
theorem dX12_put_121 : decode cX12_put 121 = .ok (.aload_n 0, 1) := by decide +kernel
theorem dX12_put_122 : decode cX12_put 122 = .ok (.bipush 54, 2) := by decide +kernel
theorem dX12_put_124 : decode cX12_put 124 = .ok (.bipush 55, 2) := by decide +kernel
theorem dX12_put_126 : decode cX12_put 126 = .ok (.iload 4, 2) := by decide +kernel
theorem dX12_put_128 : decode cX12_put 128 = .ok (.invokevirtual 174, 3) := by decide +kernel
theorem dX12_put_131 : decode cX12_put 131 = .ok (.ifCond .ne 6, 3) := by decide +kernel
theorem dX12_put_134 : decode cX12_put 134 = .ok (.bipush (-2), 2) := by decide +kernel
theorem dX12_put_136 : decode cX12_put 136 = .ok (.ireturn, 1) := by decide +kernel
theorem dX12_put_137 : decode cX12_put 137 = .ok (.iconst 0, 1) := by decide +kernel
theorem dX12_put_138 : decode cX12_put 138 = .ok (.istore 7, 2) := by decide +kernel
theorem dX12_put_140 : decode cX12_put 140 = .ok (.iload 7, 2) := by decide +kernel
theorem dX12_put_142 : decode cX12_put 142 = .ok (.aload_n 0, 1) := by decide +kernel
theorem dX12_put_143 : decode cX12_put 143 = .ok (.getfield 13, 3) := by decide +kernel
theorem dX12_put_146 : decode cX12_put 146 = .ok (.iload_n 2, 1) := by decide +kernel
theorem dX12_put_147 : decode cX12_put 147 = .ok (.iaload, 1) := by decide +kernel
theorem dX12_put_148 : decode cX12_put 148 = .ok (.if_icmp .ge 44, 3) := by decide +kernel
theorem dX12_put_151 : decode cX12_put 151 = .ok (.aload_n 0, 1) := by decide +kernel
theorem dX12_put_152 : decode cX12_put 152 = .ok (.iload_n 2, 1) := by decide +kernel
theorem dX12_put_153 : decode cX12_put 153 = .ok (.iload 7, 2) := by decide +kernel
theorem dX12_put_155 : decode cX12_put 155 = .ok (.invokevirtual 123, 3) := by decide +kernel
theorem dX12_put_158 : decode cX12_put 158 = .ok (.iload_n 3, 1) := by decide +kernel
theorem dX12_put_159 : decode cX12_put 159 = .ok (.invokestatic 119, 3) := by decide +kernel
theorem dX12_put_162 : decode cX12_put 162 = .ok (.iload 6, 2) := by decide +kernel
theorem dX12_put_164 : decode cX12_put 164 = .ok (.if_icmp .ne 22, 3) := by decide +kernel
theorem dX12_put_167 : decode cX12_put 167 = .ok (.aload_n 0, 1) := by decide +kernel
theorem dX12_put_168 : decode cX12_put 168 = .ok (.aload_n 0, 1) := by decide +kernel
theorem dX12_put_169 : decode cX12_put 169 = .ok (.iload_n 2, 1) := by decide +kernel
theorem dX12_put_170 : decode cX12_put 170 = .ok (.iload 7, 2) := by decide +kernel
theorem dX12_put_172 : decode cX12_put 172 = .ok (.invokevirtual 123, 3) := by decide +kernel
theorem dX12_put_175 : decode cX12_put 175 = .ok (.aload_n 0, 1) := by decide +kernel
theorem dX12_put_176 : decode cX12_put 176 = .ok (.iload_n 2, 1) := by decide +kernel
theorem dX12_put_177 : decode cX12_put 177 = .ok (.iload 7, 2) := by decide +kernel
theorem dX12_put_179 : decode cX12_put 179 = .ok (.invokevirtual 126, 3) := by decide +kernel
theorem dX12_put_182 : decode cX12_put 182 = .ok (.iload_n 3, 1) := by decide +kernel
theorem dX12_put_183 : decode cX12_put 183 = .ok (.invokevirtual 305, 3) := by decide +kernel
theorem dX12_put_186 : decode cX12_put 186 = .ok (.iinc 7 1, 3) := by decide +kernel
theorem dX12_put_189 : decode cX12_put 189 = .ok (.goto (-49), 3) := by decide +kernel
theorem dX12_put_192 : decode cX12_put 192 = .ok (.iinc 6 1, 3) := by decide +kernel
theorem dX12_put_195 : decode cX12_put 195 = .ok (.goto (-112), 3) := by decide +kernel
theorem dX12_put_198 : decode cX12_put 198 = .ok (.aload_n 0, 1) := by decide +kernel
theorem dX12_put_199 : decode cX12_put 199 = .ok (.bipush 54, 2) := by decide +kernel
theorem dX12_put_201 : decode cX12_put 201 = .ok (.invokevirtual 308, 3) := by decide +kernel
theorem dX12_put_204 : decode cX12_put 204 = .ok (.ifCond .eq 13, 3) := by decide +kernel
theorem dX12_put_207 : decode cX12_put 207 = .ok (.aload_n 0, 1) := by decide +kernel
theorem dX12_put_208 : decode cX12_put 208 = .ok (.iload_n 1, 1) := by decide +kernel
theorem dX12_put_209 : decode cX12_put 209 = .ok (.bipush 54, 2) := by decide +kernel
theorem dX12_put_211 : decode cX12_put 211 = .ok (.invokevirtual 275, 3) := by decide +kernel
theorem dX12_put_214 : decode cX12_put 214 = .ok (.goto 5, 3) := by decide +kernel
theorem dX12_put_217 : decode cX12_put 217 = .ok (.bipush (-2), 2) := by decide +kernel
theorem dX12_put_219 : decode cX12_put 219 = .ok (.ireturn, 1) := by decide +kernel
theorem dX12_putsTerm_0 : decode cX12_putsTerm 0 = .ok (.iconst 0, 1) := by decide +kernel
theorem dX12_putsTerm_1 : decode cX12_putsTerm 1 = .ok (.istore 4, 2) := by decide +kernel
theorem dX12_putsTerm_3 : decode cX12_putsTerm 3 = .ok (.iload 4, 2) := by decide +kernel
theorem dX12_putsTerm_5 : decode cX12_putsTerm 5 = .ok (.aload_n 0, 1) := by decide +kernel
theorem dX12_putsTerm_6 : decode cX12_putsTerm 6 = .ok (.getfield 13, 3) := by decide +kernel
theorem dX12_putsTerm_9 : decode cX12_putsTerm 9 = .ok (.bipush 54, 2) := by decide +kernel
theorem dX12_putsTerm_11 : decode cX12_putsTerm 11 = .ok (.iaload, 1) := by decide +kernel
theorem dX12_putsTerm_12 : decode cX12_putsTerm 12 = .ok (.if_icmp .ge 132, 3) := by decide +kernel
theorem dX12_putsTerm_15 : decode cX12_putsTerm 15 = .ok (.aload_n 0, 1) := by decide +kernel
theorem dX12_putsTerm_16 : decode cX12_putsTerm 16 = .ok (.bipush 54, 2) := by decide +kernel
theorem dX12_putsTerm_18 : decode cX12_putsTerm 18 = .ok (.iload 4, 2) := by decide +kernel
theorem dX12_putsTerm_20 : decode cX12_putsTerm 20 = .ok (.invokevirtual 123, 3) := by decide +kernel
theorem dX12_putsTerm_23 : decode cX12_putsTerm 23 = .ok (.istore 5, 2) := by decide +kernel
theorem dX12_putsTerm_25 : decode cX12_putsTerm 25 = .ok (.iload 5, 2) := by decide +kernel
theorem dX12_putsTerm_27 : decode cX12_putsTerm 27 = .ok (.iconst 0, 1) := by decide +kernel
theorem dX12_putsTerm_28 : decode cX12_putsTerm 28 = .ok (.invokestatic 119, 3) := by decide +kernel
theorem dX12_putsTerm_31 : decode cX12_putsTerm 31 = .ok (.iload_n 3, 1) := by decide +kernel
theorem dX12_putsTerm_32 : decode cX12_putsTerm 32 = .ok (.ifCond .ne 7, 3) := by decide +kernel
theorem dX12_putsTerm_35 : decode cX12_putsTerm 35 = .ok (.iconst 0, 1) := by decide +kernel
theorem dX12_putsTerm_36 : decode cX12_putsTerm 36 = .ok (.goto 8, 3) := by decide +kernel
theorem dX12_putsTerm_39 : decode cX12_putsTerm 39 = .ok (.iload_n 1, 1) := by decide +kernel
theorem dX12_putsTerm_40 : decode cX12_putsTerm 40 = .ok (.iconst 0, 1) := by decide +kernel
theorem dX12_putsTerm_41 : decode cX12_putsTerm 41 = .ok (.invokestatic 119, 3) := by decide +kernel
theorem dX12_putsTerm_44 : decode cX12_putsTerm 44 = .ok (.iadd, 1) := by decide +kernel
theorem dX12_putsTerm_45 : decode cX12_putsTerm 45 = .ok (.istore 6, 2) := by decide +kernel
theorem dX12_putsTerm_47 : decode cX12_putsTerm 47 = .ok (.iload 5, 2) := by decide +kernel
theorem dX12_putsTerm_49 : decode cX12_putsTerm 49 = .ok (.iconst 1, 1) := by decide +kernel
theorem dX12_putsTerm_50 : decode cX12_putsTerm 50 = .ok (.invokestatic 119, 3) := by decide +kernel
theorem dX12_putsTerm_53 : decode cX12_putsTerm 53 = .ok (.iload_n 3, 1) := by decide +kernel
theorem dX12_putsTerm_54 : decode cX12_putsTerm 54 = .ok (.iconst 1, 1) := by decide +kernel
theorem dX12_putsTerm_55 : decode cX12_putsTerm 55 = .ok (.if_icmp .ne 7, 3) := by decide +kernel
theorem dX12_putsTerm_58 : decode cX12_putsTerm 58 = .ok (.iconst 0, 1) := by decide +kernel
theorem dX12_putsTerm_59 : decode cX12_putsTerm 59 = .ok (.goto 8, 3) := by decide +kernel
theorem dX12_putsTerm_62 : decode cX12_putsTerm 62 = .ok (.iload_n 1, 1) := by decide +kernel
theorem dX12_putsTerm_63 : decode cX12_putsTerm 63 = .ok (.iconst 1, 1) := by decide +kernel
theorem dX12_putsTerm_64 : decode cX12_putsTerm 64 = .ok (.invokestatic 119, 3) := by decide +kernel
theorem dX12_putsTerm_67 : decode cX12_putsTerm 67 = .ok (.iadd, 1) := by decide +kernel
theorem dX12_putsTerm_68 : decode cX12_putsTerm 68 = .ok (.istore 7, 2) := by decide +kernel
theorem dX12_putsTerm_70 : decode cX12_putsTerm 70 = .ok (.iload 5, 2) := by decide +kernel
theorem dX12_putsTerm_72 : decode cX12_putsTerm 72 = .ok (.iconst 2, 1) := by decide +kernel
theorem dX12_putsTerm_73 : decode cX12_putsTerm 73 = .ok (.invokestatic 119, 3) := by decide +kernel
theorem dX12_putsTerm_76 : decode cX12_putsTerm 76 = .ok (.iload_n 3, 1) := by decide +kernel
theorem dX12_putsTerm_77 : decode cX12_putsTerm 77 = .ok (.iconst 2, 1) := by decide +kernel
theorem dX12_putsTerm_78 : decode cX12_putsTerm 78 = .ok (.if_icmp .ne 7, 3) := by decide +kernel
theorem dX12_putsTerm_81 : decode cX12_putsTerm 81 = .ok (.iconst 0, 1) := by decide +kernel
theorem dX12_putsTerm_82 : decode cX12_putsTerm 82 = .ok (.goto 8, 3) := by decide +kernel
theorem dX12_putsTerm_85 : decode cX12_putsTerm 85 = .ok (.iload_n 1, 1) := by decide +kernel
theorem dX12_putsTerm_86 : decode cX12_putsTerm 86 = .ok (.iconst 2, 1) := by decide +kernel
theorem dX12_putsTerm_87 : decode cX12_putsTerm 87 = .ok (.invokestatic 119, 3) := by decide +kernel
theorem dX12_putsTerm_90 : decode cX12_putsTerm 90 = .ok (.iadd, 1) := by decide +kernel
theorem dX12_putsTerm_91 : decode cX12_putsTerm 91 = .ok (.istore 8, 2) := by decide +kernel
theorem dX12_putsTerm_93 : decode cX12_putsTerm 93 = .ok (.iload 6, 2) := by decide +kernel
theorem dX12_putsTerm_95 : decode cX12_putsTerm 95 = .ok (.bipush 81, 2) := by decide +kernel
theorem dX12_putsTerm_97 : decode cX12_putsTerm 97 = .ok (.imul, 1) := by decide +kernel
theorem dX12_putsTerm_98 : decode cX12_putsTerm 98 = .ok (.iload 7, 2) := by decide +kernel
theorem dX12_putsTerm_100 : decode cX12_putsTerm 100 = .ok (.iadd, 1) := by decide +kernel
theorem dX12_putsTerm_101 : decode cX12_putsTerm 101 = .ok (.bipush 81, 2) := by decide +kernel
theorem dX12_putsTerm_103 : decode cX12_putsTerm 103 = .ok (.imul, 1) := by decide +kernel
theorem dX12_putsTerm_104 : decode cX12_putsTerm 104 = .ok (.iload 8, 2) := by decide +kernel
theorem dX12_putsTerm_106 : decode cX12_putsTerm 106 = .ok (.iadd, 1) := by decide +kernel
theorem dX12_putsTerm_107 : decode cX12_putsTerm 107 = .ok (.istore 9, 2) := by decide +kernel
theorem dX12_putsTerm_109 : decode cX12_putsTerm 109 = .ok (.aload_n 0, 1) := by decide +kernel
theorem dX12_putsTerm_110 : decode cX12_putsTerm 110 = .ok (.getfield 71, 3) := by decide +kernel
theorem dX12_putsTerm_113 : decode cX12_putsTerm 113 = .ok (.iload 9, 2) := by decide +kernel
theorem dX12_putsTerm_115 : decode cX12_putsTerm 115 = .ok (.aload_n 0, 1) := by decide +kernel
theorem dX12_putsTerm_116 : decode cX12_putsTerm 116 = .ok (.aload_n 0, 1) := by decide +kernel
theorem dX12_putsTerm_117 : decode cX12_putsTerm 117 = .ok (.getfield 71, 3) := by decide +kernel
theorem dX12_putsTerm_120 : decode cX12_putsTerm 120 = .ok (.iload 9, 2) := by decide +kernel
theorem dX12_putsTerm_122 : decode cX12_putsTerm 122 = .ok (.iaload, 1) := by decide +kernel
theorem dX12_putsTerm_123 : decode cX12_putsTerm 123 = .ok (.iload_n 2, 1) := by decide +kernel
theorem dX12_putsTerm_124 : decode cX12_putsTerm 124 = .ok (.aload_n 0, 1) := by decide +kernel
theorem dX12_putsTerm_125 : decode cX12_putsTerm 125 = .ok (.bipush 54, 2) := by decide +kernel
theorem dX12_putsTerm_127 : decode cX12_putsTerm 127 = .ok (.iload 4, 2) := by decide +kernel
theorem dX12_putsTerm_129 : decode cX12_putsTerm 129 = .ok (.invokevirtual 126, 3) := by decide +kernel
theorem dX12_putsTerm_132 : decode cX12_putsTerm 132 = .ok (.imul, 1) := by decide +kernel
theorem dX12_putsTerm_133 : decode cX12_putsTerm 133 = .ok (.iadd, 1) := by decide +kernel
theorem dX12_putsTerm_134 : decode cX12_putsTerm 134 = .ok (.invokevirtual 138, 3) := by decide +kernel
theorem dX12_putsTerm_137 : decode cX12_putsTerm 137 = .ok (.iastore, 1) := by decide +kernel
theorem dX12_putsTerm_138 : decode cX12_putsTerm 138 = .ok (.iinc 4 1, 3) := by decide +kernel
theorem dX12_putsTerm_141 : decode cX12_putsTerm 141 = .ok (.goto (-138), 3) := by decide +kernel
theorem dX12_putsTerm_144 : decode cX12_putsTerm 144 = .ok (.return_, 1) := by decide +kernel
theorem dX12_gathersPuts_0 : decode cX12_gathersPuts 0 = .ok (.iconst 0, 1) := by decide +kernel
theorem dX12_gathersPuts_1 : decode cX12_gathersPuts 1 = .ok (.istore_n 2, 1) := by decide +kernel
theorem dX12_gathersPuts_2 : decode cX12_gathersPuts 2 = .ok (.iconst 0, 1) := by decide +kernel
theorem dX12_gathersPuts_3 : decode cX12_gathersPuts 3 = .ok (.istore_n 3, 1) := by decide +kernel
theorem dX12_gathersPuts_4 : decode cX12_gathersPuts 4 = .ok (.iload_n 3, 1) := by decide +kernel
theorem dX12_gathersPuts_5 : decode cX12_gathersPuts 5 = .ok (.aload_n 0, 1) := by decide +kernel
theorem dX12_gathersPuts_6 : decode cX12_gathersPuts 6 = .ok (.getfield 71, 3) := by decide +kernel
theorem dX12_gathersPuts_9 : decode cX12_gathersPuts 9 = .ok (.arraylength, 1) := by decide +kernel
theorem dX12_gathersPuts_10 : decode cX12_gathersPuts 10 = .ok (.if_icmp .ge 115, 3) := by decide +kernel
theorem dX12_gathersPuts_13 : decode cX12_gathersPuts 13 = .ok (.aload_n 0, 1) := by decide +kernel
theorem dX12_gathersPuts_14 : decode cX12_gathersPuts 14 = .ok (.getfield 71, 3) := by decide +kernel
theorem dX12_gathersPuts_17 : decode cX12_gathersPuts 17 = .ok (.iload_n 3, 1) := by decide +kernel
theorem dX12_gathersPuts_18 : decode cX12_gathersPuts 18 = .ok (.iaload, 1) := by decide +kernel
theorem dX12_gathersPuts_19 : decode cX12_gathersPuts 19 = .ok (.ifCond .ne 6, 3) := by decide +kernel
theorem dX12_gathersPuts_22 : decode cX12_gathersPuts 22 = .ok (.goto 97, 3) := by decide +kernel
theorem dX12_gathersPuts_25 : decode cX12_gathersPuts 25 = .ok (.iload_n 3, 1) := by decide +kernel
theorem dX12_gathersPuts_26 : decode cX12_gathersPuts 26 = .ok (.sipush 6561, 3) := by decide +kernel
theorem dX12_gathersPuts_29 : decode cX12_gathersPuts 29 = .ok (.idiv, 1) := by decide +kernel
theorem dX12_gathersPuts_30 : decode cX12_gathersPuts 30 = .ok (.istore 4, 2) := by decide +kernel
theorem dX12_gathersPuts_32 : decode cX12_gathersPuts 32 = .ok (.iload_n 3, 1) := by decide +kernel
theorem dX12_gathersPuts_33 : decode cX12_gathersPuts 33 = .ok (.bipush 81, 2) := by decide +kernel
theorem dX12_gathersPuts_35 : decode cX12_gathersPuts 35 = .ok (.idiv, 1) := by decide +kernel
theorem dX12_gathersPuts_36 : decode cX12_gathersPuts 36 = .ok (.bipush 81, 2) := by decide +kernel
theorem dX12_gathersPuts_38 : decode cX12_gathersPuts 38 = .ok (.irem, 1) := by decide +kernel
theorem dX12_gathersPuts_39 : decode cX12_gathersPuts 39 = .ok (.istore 5, 2) := by decide +kernel
theorem dX12_gathersPuts_41 : decode cX12_gathersPuts 41 = .ok (.iload_n 3, 1) := by decide +kernel
theorem dX12_gathersPuts_42 : decode cX12_gathersPuts 42 = .ok (.bipush 81, 2) := by decide +kernel
theorem dX12_gathersPuts_44 : decode cX12_gathersPuts 44 = .ok (.irem, 1) := by decide +kernel
theorem dX12_gathersPuts_45 : decode cX12_gathersPuts 45 = .ok (.istore 6, 2) := by decide +kernel
theorem dX12_gathersPuts_47 : decode cX12_gathersPuts 47 = .ok (.iload_n 2, 1) := by decide +kernel
theorem dX12_gathersPuts_48 : decode cX12_gathersPuts 48 = .ok (.sipush 300, 3) := by decide +kernel
theorem dX12_gathersPuts_51 : decode cX12_gathersPuts 51 = .ok (.if_icmp .eq 24, 3) := by decide +kernel
theorem dX12_gathersPuts_54 : decode cX12_gathersPuts 54 = .ok (.iload 4, 2) := by decide +kernel
theorem dX12_gathersPuts_56 : decode cX12_gathersPuts 56 = .ok (.bipush 40, 2) := by decide +kernel
theorem dX12_gathersPuts_58 : decode cX12_gathersPuts 58 = .ok (.if_icmp .gt 17, 3) := by decide +kernel
theorem dX12_gathersPuts_61 : decode cX12_gathersPuts 61 = .ok (.iload 5, 2) := by decide +kernel
theorem dX12_gathersPuts_63 : decode cX12_gathersPuts 63 = .ok (.bipush 40, 2) := by decide +kernel
theorem dX12_gathersPuts_65 : decode cX12_gathersPuts 65 = .ok (.if_icmp .gt 10, 3) := by decide +kernel
theorem dX12_gathersPuts_68 : decode cX12_gathersPuts 68 = .ok (.iload 6, 2) := by decide +kernel
theorem dX12_gathersPuts_70 : decode cX12_gathersPuts 70 = .ok (.bipush 40, 2) := by decide +kernel
theorem dX12_gathersPuts_72 : decode cX12_gathersPuts 72 = .ok (.if_icmp .le 5, 3) := by decide +kernel
theorem dX12_gathersPuts_75 : decode cX12_gathersPuts 75 = .ok (.iconst 0, 1) := by decide +kernel
theorem dX12_gathersPuts_76 : decode cX12_gathersPuts 76 = .ok (.ireturn, 1) := by decide +kernel
theorem dX12_gathersPuts_77 : decode cX12_gathersPuts 77 = .ok (.aload_n 0, 1) := by decide +kernel
theorem dX12_gathersPuts_78 : decode cX12_gathersPuts 78 = .ok (.getfield 17, 3) := by decide +kernel
theorem dX12_gathersPuts_81 : decode cX12_gathersPuts 81 = .ok (.sipush 300, 3) := by decide +kernel
theorem dX12_gathersPuts_84 : decode cX12_gathersPuts 84 = .ok (.iload_n 1, 1) := by decide +kernel
theorem dX12_gathersPuts_85 : decode cX12_gathersPuts 85 = .ok (.imul, 1) := by decide +kernel
theorem dX12_gathersPuts_86 : decode cX12_gathersPuts 86 = .ok (.iload_n 2, 1) := by decide +kernel
theorem dX12_gathersPuts_87 : decode cX12_gathersPuts 87 = .ok (.iadd, 1) := by decide +kernel
theorem dX12_gathersPuts_88 : decode cX12_gathersPuts 88 = .ok (.iload 4, 2) := by decide +kernel
theorem dX12_gathersPuts_90 : decode cX12_gathersPuts 90 = .ok (.iload 5, 2) := by decide +kernel
theorem dX12_gathersPuts_92 : decode cX12_gathersPuts 92 = .ok (.iload 6, 2) := by decide +kernel
theorem dX12_gathersPuts_94 : decode cX12_gathersPuts 94 = .ok (.invokestatic 144, 3) := by decide +kernel
theorem dX12_gathersPuts_97 : decode cX12_gathersPuts 97 = .ok (.iastore, 1) := by decide +kernel
theorem dX12_gathersPuts_98 : decode cX12_gathersPuts 98 = .ok (.aload_n 0, 1) := by decide +kernel
theorem dX12_gathersPuts_99 : decode cX12_gathersPuts 99 = .ok (.getfield 20, 3) := by decide +kernel
theorem dX12_gathersPuts_102 : decode cX12_gathersPuts 102 = .ok (.sipush 300, 3) := by decide +kernel
theorem dX12_gathersPuts_105 : decode cX12_gathersPuts 105 = .ok (.iload_n 1, 1) := by decide +kernel
theorem dX12_gathersPuts_106 : decode cX12_gathersPuts 106 = .ok (.imul, 1) := by decide +kernel
theorem dX12_gathersPuts_107 : decode cX12_gathersPuts 107 = .ok (.iload_n 2, 1) := by decide +kernel
theorem dX12_gathersPuts_108 : decode cX12_gathersPuts 108 = .ok (.iadd, 1) := by decide +kernel
theorem dX12_gathersPuts_109 : decode cX12_gathersPuts 109 = .ok (.aload_n 0, 1) := by decide +kernel
theorem dX12_gathersPuts_110 : decode cX12_gathersPuts 110 = .ok (.getfield 71, 3) := by decide +kernel
theorem dX12_gathersPuts_113 : decode cX12_gathersPuts 113 = .ok (.iload_n 3, 1) := by decide +kernel
theorem dX12_gathersPuts_114 : decode cX12_gathersPuts 114 = .ok (.iaload, 1) := by decide +kernel
theorem dX12_gathersPuts_115 : decode cX12_gathersPuts 115 = .ok (.iastore, 1) := by decide +kernel
theorem dX12_gathersPuts_116 : decode cX12_gathersPuts 116 = .ok (.iinc 2 1, 3) := by decide +kernel
theorem dX12_gathersPuts_119 : decode cX12_gathersPuts 119 = .ok (.iinc 3 1, 3) := by decide +kernel
theorem dX12_gathersPuts_122 : decode cX12_gathersPuts 122 = .ok (.goto (-118), 3) := by decide +kernel
theorem dX12_gathersPuts_125 : decode cX12_gathersPuts 125 = .ok (.aload_n 0, 1) := by decide +kernel
theorem dX12_gathersPuts_126 : decode cX12_gathersPuts 126 = .ok (.getfield 13, 3) := by decide +kernel
theorem dX12_gathersPuts_129 : decode cX12_gathersPuts 129 = .ok (.iload_n 1, 1) := by decide +kernel
theorem dX12_gathersPuts_130 : decode cX12_gathersPuts 130 = .ok (.iload_n 2, 1) := by decide +kernel
theorem dX12_gathersPuts_131 : decode cX12_gathersPuts 131 = .ok (.iastore, 1) := by decide +kernel
theorem dX12_gathersPuts_132 : decode cX12_gathersPuts 132 = .ok (.iconst 1, 1) := by decide +kernel
theorem dX12_gathersPuts_133 : decode cX12_gathersPuts 133 = .ok (.ireturn, 1) := by decide +kernel
theorem dX12_fit_0 : decode cX12_fit 0 = .ok (.aload_n 0, 1) := by decide +kernel
theorem dX12_fit_1 : decode cX12_fit 1 = .ok (.iload_n 1, 1) := by decide +kernel
theorem dX12_fit_2 : decode cX12_fit 2 = .ok (.invokestatic 265, 3) := by decide +kernel
theorem dX12_fit_5 : decode cX12_fit 5 = .ok (.ifCond .eq 14, 3) := by decide +kernel
theorem dX12_fit_8 : decode cX12_fit 8 = .ok (.aload_n 0, 1) := by decide +kernel
theorem dX12_fit_9 : decode cX12_fit 9 = .ok (.getfield 311, 3) := by decide +kernel
theorem dX12_fit_12 : decode cX12_fit 12 = .ok (.aload_n 0, 1) := by decide +kernel
theorem dX12_fit_13 : decode cX12_fit 13 = .ok (.getfield 9, 3) := by decide +kernel
theorem dX12_fit_16 : decode cX12_fit 16 = .ok (.if_icmp .ge 7, 3) := by decide +kernel
theorem dX12_fit_19 : decode cX12_fit 19 = .ok (.iconst 1, 1) := by decide +kernel
theorem dX12_fit_20 : decode cX12_fit 20 = .ok (.goto 4, 3) := by decide +kernel
theorem dX12_fit_23 : decode cX12_fit 23 = .ok (.iconst 0, 1) := by decide +kernel
theorem dX12_fit_24 : decode cX12_fit 24 = .ok (.putfield 116, 3) := by decide +kernel
theorem dX12_fit_27 : decode cX12_fit 27 = .ok (.aload_n 0, 1) := by decide +kernel
theorem dX12_fit_28 : decode cX12_fit 28 = .ok (.getfield 116, 3) := by decide +kernel
theorem dX12_fit_31 : decode cX12_fit 31 = .ok (.ifCond .le 5, 3) := by decide +kernel
theorem dX12_fit_34 : decode cX12_fit 34 = .ok (.iconst 0, 1) := by decide +kernel
theorem dX12_fit_35 : decode cX12_fit 35 = .ok (.ireturn, 1) := by decide +kernel
theorem dX12_fit_36 : decode cX12_fit 36 = .ok (.aload_n 0, 1) := by decide +kernel
theorem dX12_fit_37 : decode cX12_fit 37 = .ok (.iconst 0, 1) := by decide +kernel
theorem dX12_fit_38 : decode cX12_fit 38 = .ok (.putfield 311, 3) := by decide +kernel
theorem dX12_fit_41 : decode cX12_fit 41 = .ok (.iconst 0, 1) := by decide +kernel
theorem dX12_fit_42 : decode cX12_fit 42 = .ok (.istore_n 2, 1) := by decide +kernel
theorem dX12_fit_43 : decode cX12_fit 43 = .ok (.iload_n 2, 1) := by decide +kernel
theorem dX12_fit_44 : decode cX12_fit 44 = .ok (.aload_n 0, 1) := by decide +kernel
theorem dX12_fit_45 : decode cX12_fit 45 = .ok (.getfield 9, 3) := by decide +kernel
theorem dX12_fit_48 : decode cX12_fit 48 = .ok (.if_icmp .ge 24, 3) := by decide +kernel
theorem dX12_fit_51 : decode cX12_fit 51 = .ok (.aload_n 0, 1) := by decide +kernel
theorem dX12_fit_52 : decode cX12_fit 52 = .ok (.getfield 110, 3) := by decide +kernel
theorem dX12_fit_55 : decode cX12_fit 55 = .ok (.iload_n 2, 1) := by decide +kernel
theorem dX12_fit_56 : decode cX12_fit 56 = .ok (.iaload, 1) := by decide +kernel
theorem dX12_fit_57 : decode cX12_fit 57 = .ok (.aload_n 0, 1) := by decide +kernel
theorem dX12_fit_58 : decode cX12_fit 58 = .ok (.getfield 9, 3) := by decide +kernel
theorem dX12_fit_61 : decode cX12_fit 61 = .ok (.if_icmp .lt 5, 3) := by decide +kernel
theorem dX12_fit_64 : decode cX12_fit 64 = .ok (.iconst (-1), 1) := by decide +kernel
theorem dX12_fit_65 : decode cX12_fit 65 = .ok (.ireturn, 1) := by decide +kernel
theorem dX12_fit_66 : decode cX12_fit 66 = .ok (.iinc 2 1, 3) := by decide +kernel
theorem dX12_fit_69 : decode cX12_fit 69 = .ok (.goto (-26), 3) := by decide +kernel
theorem dX12_fit_72 : decode cX12_fit 72 = .ok (.iconst 0, 1) := by decide +kernel
theorem dX12_fit_73 : decode cX12_fit 73 = .ok (.istore_n 2, 1) := by decide +kernel
theorem dX12_fit_74 : decode cX12_fit 74 = .ok (.iload_n 2, 1) := by decide +kernel
theorem dX12_fit_75 : decode cX12_fit 75 = .ok (.aload_n 0, 1) := by decide +kernel
theorem dX12_fit_76 : decode cX12_fit 76 = .ok (.getfield 9, 3) := by decide +kernel
theorem dX12_fit_79 : decode cX12_fit 79 = .ok (.if_icmp .ge 98, 3) := by decide +kernel
theorem dX12_fit_82 : decode cX12_fit 82 = .ok (.aload_n 0, 1) := by decide +kernel
theorem dX12_fit_83 : decode cX12_fit 83 = .ok (.iconst 0, 1) := by decide +kernel
theorem dX12_fit_84 : decode cX12_fit 84 = .ok (.iconst 0, 1) := by decide +kernel
theorem dX12_fit_85 : decode cX12_fit 85 = .ok (.iconst 0, 1) := by decide +kernel
theorem dX12_fit_86 : decode cX12_fit 86 = .ok (.aload_n 0, 1) := by decide +kernel
theorem dX12_fit_87 : decode cX12_fit 87 = .ok (.getfield 110, 3) := by decide +kernel
theorem dX12_fit_90 : decode cX12_fit 90 = .ok (.iload_n 2, 1) := by decide +kernel
theorem dX12_fit_91 : decode cX12_fit 91 = .ok (.iaload, 1) := by decide +kernel
theorem dX12_fit_92 : decode cX12_fit 92 = .ok (.invokevirtual 152, 3) := by decide +kernel
theorem dX12_fit_95 : decode cX12_fit 95 = .ok (.iconst 1, 1) := by decide +kernel
theorem dX12_fit_96 : decode cX12_fit 96 = .ok (.istore_n 3, 1) := by decide +kernel
theorem dX12_fit_97 : decode cX12_fit 97 = .ok (.aload_n 0, 1) := by decide +kernel
theorem dX12_fit_98 : decode cX12_fit 98 = .ok (.getfield 9, 3) := by decide +kernel
theorem dX12_fit_101 : decode cX12_fit 101 = .ok (.iconst 1, 1) := by decide +kernel
theorem dX12_fit_102 : decode cX12_fit 102 = .ok (.isub, 1) := by decide +kernel
theorem dX12_fit_103 : decode cX12_fit 103 = .ok (.istore 4, 2) := by decide +kernel
theorem dX12_fit_105 : decode cX12_fit 105 = .ok (.iload 4, 2) := by decide +kernel
theorem dX12_fit_107 : decode cX12_fit 107 = .ok (.ifCond .lt 64, 3) := by decide +kernel
theorem dX12_fit_110 : decode cX12_fit 110 = .ok (.aload_n 0, 1) := by decide +kernel
theorem dX12_fit_111 : decode cX12_fit 111 = .ok (.iload 4, 2) := by decide +kernel
theorem dX12_fit_113 : decode cX12_fit 113 = .ok (.iconst 0, 1) := by decide +kernel
theorem dX12_fit_114 : decode cX12_fit 114 = .ok (.iconst 0, 1) := by decide +kernel
theorem dX12_fit_115 : decode cX12_fit 115 = .ok (.aload_n 0, 1) := by decide +kernel
theorem dX12_fit_116 : decode cX12_fit 116 = .ok (.getfield 110, 3) := by decide +kernel
theorem dX12_fit_119 : decode cX12_fit 119 = .ok (.iload_n 2, 1) := by decide +kernel
theorem dX12_fit_120 : decode cX12_fit 120 = .ok (.iaload, 1) := by decide +kernel
theorem dX12_fit_121 : decode cX12_fit 121 = .ok (.ineg, 1) := by decide +kernel
theorem dX12_fit_122 : decode cX12_fit 122 = .ok (.iload_n 3, 1) := by decide +kernel
theorem dX12_fit_123 : decode cX12_fit 123 = .ok (.imul, 1) := by decide +kernel
theorem dX12_fit_124 : decode cX12_fit 124 = .ok (.aload_n 0, 1) := by decide +kernel
theorem dX12_fit_125 : decode cX12_fit 125 = .ok (.getfield 9, 3) := by decide +kernel
theorem dX12_fit_128 : decode cX12_fit 128 = .ok (.irem, 1) := by decide +kernel
theorem dX12_fit_129 : decode cX12_fit 129 = .ok (.aload_n 0, 1) := by decide +kernel
theorem dX12_fit_130 : decode cX12_fit 130 = .ok (.aload_n 0, 1) := by decide +kernel
theorem dX12_fit_131 : decode cX12_fit 131 = .ok (.iload_n 2, 1) := by decide +kernel
theorem dX12_fit_132 : decode cX12_fit 132 = .ok (.ineg, 1) := by decide +kernel
theorem dX12_fit_133 : decode cX12_fit 133 = .ok (.invokevirtual 138, 3) := by decide +kernel
theorem dX12_fit_136 : decode cX12_fit 136 = .ok (.aload_n 0, 1) := by decide +kernel
theorem dX12_fit_137 : decode cX12_fit 137 = .ok (.getfield 9, 3) := by decide +kernel
theorem dX12_fit_140 : decode cX12_fit 140 = .ok (.iconst 1, 1) := by decide +kernel
theorem dX12_fit_141 : decode cX12_fit 141 = .ok (.isub, 1) := by decide +kernel
theorem dX12_fit_142 : decode cX12_fit 142 = .ok (.iload 4, 2) := by decide +kernel
theorem dX12_fit_144 : decode cX12_fit 144 = .ok (.isub, 1) := by decide +kernel
theorem dX12_fit_145 : decode cX12_fit 145 = .ok (.invokevirtual 314, 3) := by decide +kernel
theorem dX12_fit_148 : decode cX12_fit 148 = .ok (.imul, 1) := by decide +kernel
theorem dX12_fit_149 : decode cX12_fit 149 = .ok (.invokevirtual 152, 3) := by decide +kernel
theorem dX12_fit_152 : decode cX12_fit 152 = .ok (.iload_n 3, 1) := by decide +kernel
theorem dX12_fit_153 : decode cX12_fit 153 = .ok (.iload 4, 2) := by decide +kernel
theorem dX12_fit_155 : decode cX12_fit 155 = .ok (.imul, 1) := by decide +kernel
theorem dX12_fit_156 : decode cX12_fit 156 = .ok (.aload_n 0, 1) := by decide +kernel
theorem dX12_fit_157 : decode cX12_fit 157 = .ok (.getfield 9, 3) := by decide +kernel
theorem dX12_fit_160 : decode cX12_fit 160 = .ok (.iload 4, 2) := by decide +kernel
theorem dX12_fit_162 : decode cX12_fit 162 = .ok (.isub, 1) := by decide +kernel
theorem dX12_fit_163 : decode cX12_fit 163 = .ok (.idiv, 1) := by decide +kernel
theorem dX12_fit_164 : decode cX12_fit 164 = .ok (.istore_n 3, 1) := by decide +kernel
theorem dX12_fit_165 : decode cX12_fit 165 = .ok (.iinc 4 (-1), 3) := by decide +kernel
theorem dX12_fit_168 : decode cX12_fit 168 = .ok (.goto (-63), 3) := by decide +kernel
theorem dX12_fit_171 : decode cX12_fit 171 = .ok (.iinc 2 1, 3) := by decide +kernel
theorem dX12_fit_174 : decode cX12_fit 174 = .ok (.goto (-100), 3) := by decide +kernel
theorem dX12_fit_177 : decode cX12_fit 177 = .ok (.aload_n 0, 1) := by decide +kernel
theorem dX12_fit_178 : decode cX12_fit 178 = .ok (.bipush 54, 2) := by decide +kernel
theorem dX12_fit_180 : decode cX12_fit 180 = .ok (.invokevirtual 160, 3) := by decide +kernel
theorem dX12_fit_183 : decode cX12_fit 183 = .ok (.istore_n 2, 1) := by decide +kernel
theorem dX12_fit_184 : decode cX12_fit 184 = .ok (.aload_n 0, 1) := by decide +kernel
theorem dX12_fit_185 : decode cX12_fit 185 = .ok (.iload_n 1, 1) := by decide +kernel
theorem dX12_fit_186 : decode cX12_fit 186 = .ok (.bipush 54, 2) := by decide +kernel
theorem dX12_fit_188 : decode cX12_fit 188 = .ok (.invokevirtual 275, 3) := by decide +kernel
theorem dX12_fit_191 : decode cX12_fit 191 = .ok (.ireturn, 1) := by decide +kernel
theorem dX12_of_0 : decode cX12_of 0 = .ok (.aload_n 0, 1) := by decide +kernel
theorem dX12_of_1 : decode cX12_of 1 = .ok (.iconst 0, 1) := by decide +kernel
theorem dX12_of_2 : decode cX12_of 2 = .ok (.putfield 116, 3) := by decide +kernel
theorem dX12_of_5 : decode cX12_of 5 = .ok (.iload_n 1, 1) := by decide +kernel
theorem dX12_of_6 : decode cX12_of 6 = .ok (.invokestatic 265, 3) := by decide +kernel
theorem dX12_of_9 : decode cX12_of 9 = .ok (.ifCond .ne 9, 3) := by decide +kernel
theorem dX12_of_12 : decode cX12_of 12 = .ok (.aload_n 0, 1) := by decide +kernel
theorem dX12_of_13 : decode cX12_of 13 = .ok (.iconst 1, 1) := by decide +kernel
theorem dX12_of_14 : decode cX12_of 14 = .ok (.invokevirtual 317, 3) := by decide +kernel
theorem dX12_of_17 : decode cX12_of 17 = .ok (.ireturn, 1) := by decide +kernel
theorem dX12_of_18 : decode cX12_of 18 = .ok (.iload_n 2, 1) := by decide +kernel
theorem dX12_of_19 : decode cX12_of 19 = .ok (.tableswitch 108 0 8 #[49, 56, 62, 62, 62, 71, 77, 77, 94], 49) := by decide +kernel
theorem dX12_of_68 : decode cX12_of 68 = .ok (.aload_n 0, 1) := by decide +kernel
theorem dX12_of_69 : decode cX12_of 69 = .ok (.getfield 13, 3) := by decide +kernel
theorem dX12_of_72 : decode cX12_of 72 = .ok (.iload_n 1, 1) := by decide +kernel
theorem dX12_of_73 : decode cX12_of 73 = .ok (.iaload, 1) := by decide +kernel
theorem dX12_of_74 : decode cX12_of 74 = .ok (.ireturn, 1) := by decide +kernel
theorem dX12_of_75 : decode cX12_of 75 = .ok (.aload_n 0, 1) := by decide +kernel
theorem dX12_of_76 : decode cX12_of 76 = .ok (.iload_n 1, 1) := by decide +kernel
theorem dX12_of_77 : decode cX12_of 77 = .ok (.invokevirtual 320, 3) := by decide +kernel
theorem dX12_of_80 : decode cX12_of 80 = .ok (.ireturn, 1) := by decide +kernel
theorem dX12_of_81 : decode cX12_of 81 = .ok (.aload_n 0, 1) := by decide +kernel
theorem dX12_of_82 : decode cX12_of 82 = .ok (.iload_n 1, 1) := by decide +kernel
theorem dX12_of_83 : decode cX12_of 83 = .ok (.iload_n 2, 1) := by decide +kernel
theorem dX12_of_84 : decode cX12_of 84 = .ok (.iconst 2, 1) := by decide +kernel
theorem dX12_of_85 : decode cX12_of 85 = .ok (.isub, 1) := by decide +kernel
theorem dX12_of_86 : decode cX12_of 86 = .ok (.invokevirtual 203, 3) := by decide +kernel
theorem dX12_of_89 : decode cX12_of 89 = .ok (.ireturn, 1) := by decide +kernel
theorem dX12_of_90 : decode cX12_of 90 = .ok (.aload_n 0, 1) := by decide +kernel
theorem dX12_of_91 : decode cX12_of 91 = .ok (.iload_n 1, 1) := by decide +kernel
theorem dX12_of_92 : decode cX12_of 92 = .ok (.invokevirtual 323, 3) := by decide +kernel
theorem dX12_of_95 : decode cX12_of 95 = .ok (.ireturn, 1) := by decide +kernel
theorem dX12_of_96 : decode cX12_of 96 = .ok (.aload_n 0, 1) := by decide +kernel
theorem dX12_of_97 : decode cX12_of 97 = .ok (.iload_n 1, 1) := by decide +kernel
theorem dX12_of_98 : decode cX12_of 98 = .ok (.iload_n 2, 1) := by decide +kernel
theorem dX12_of_99 : decode cX12_of 99 = .ok (.bipush 7, 2) := by decide +kernel
theorem dX12_of_101 : decode cX12_of 101 = .ok (.if_icmp .ne 7, 3) := by decide +kernel
theorem dX12_of_104 : decode cX12_of 104 = .ok (.iconst 1, 1) := by decide +kernel
theorem dX12_of_105 : decode cX12_of 105 = .ok (.goto 4, 3) := by decide +kernel
theorem dX12_of_108 : decode cX12_of 108 = .ok (.iconst 0, 1) := by decide +kernel
theorem dX12_of_109 : decode cX12_of 109 = .ok (.invokevirtual 326, 3) := by decide +kernel
theorem dX12_of_112 : decode cX12_of 112 = .ok (.ireturn, 1) := by decide +kernel
theorem dX12_of_113 : decode cX12_of 113 = .ok (.aload_n 0, 1) := by decide +kernel
theorem dX12_of_114 : decode cX12_of 114 = .ok (.iload_n 1, 1) := by decide +kernel
theorem dX12_of_115 : decode cX12_of 115 = .ok (.invokevirtual 330, 3) := by decide +kernel
theorem dX12_of_118 : decode cX12_of 118 = .ok (.ifCond .eq 7, 3) := by decide +kernel
theorem dX12_of_121 : decode cX12_of 121 = .ok (.iconst 1, 1) := by decide +kernel
theorem dX12_of_122 : decode cX12_of 122 = .ok (.goto 4, 3) := by decide +kernel
theorem dX12_of_125 : decode cX12_of 125 = .ok (.iconst 0, 1) := by decide +kernel
theorem dX12_of_126 : decode cX12_of 126 = .ok (.ireturn, 1) := by decide +kernel
theorem dX12_of_127 : decode cX12_of 127 = .ok (.aload_n 0, 1) := by decide +kernel
theorem dX12_of_128 : decode cX12_of 128 = .ok (.iconst 1, 1) := by decide +kernel
theorem dX12_of_129 : decode cX12_of 129 = .ok (.invokevirtual 317, 3) := by decide +kernel
theorem dX12_of_132 : decode cX12_of 132 = .ok (.ireturn, 1) := by decide +kernel
theorem dX12_isOfOneDegree_0 : decode cX12_isOfOneDegree 0 = .ok (.iconst 1, 1) := by decide +kernel
theorem dX12_isOfOneDegree_1 : decode cX12_isOfOneDegree 1 = .ok (.istore_n 2, 1) := by decide +kernel
theorem dX12_isOfOneDegree_2 : decode cX12_isOfOneDegree 2 = .ok (.iload_n 2, 1) := by decide +kernel
theorem dX12_isOfOneDegree_3 : decode cX12_isOfOneDegree 3 = .ok (.aload_n 0, 1) := by decide +kernel
theorem dX12_isOfOneDegree_4 : decode cX12_isOfOneDegree 4 = .ok (.getfield 13, 3) := by decide +kernel
theorem dX12_isOfOneDegree_7 : decode cX12_isOfOneDegree 7 = .ok (.iload_n 1, 1) := by decide +kernel
theorem dX12_isOfOneDegree_8 : decode cX12_isOfOneDegree 8 = .ok (.iaload, 1) := by decide +kernel
theorem dX12_isOfOneDegree_9 : decode cX12_isOfOneDegree 9 = .ok (.if_icmp .ge 32, 3) := by decide +kernel
theorem dX12_isOfOneDegree_12 : decode cX12_isOfOneDegree 12 = .ok (.aload_n 0, 1) := by decide +kernel
theorem dX12_isOfOneDegree_13 : decode cX12_isOfOneDegree 13 = .ok (.iload_n 1, 1) := by decide +kernel
theorem dX12_isOfOneDegree_14 : decode cX12_isOfOneDegree 14 = .ok (.iload_n 2, 1) := by decide +kernel
theorem dX12_isOfOneDegree_15 : decode cX12_isOfOneDegree 15 = .ok (.invokevirtual 123, 3) := by decide +kernel
theorem dX12_isOfOneDegree_18 : decode cX12_isOfOneDegree 18 = .ok (.invokestatic 129, 3) := by decide +kernel
theorem dX12_isOfOneDegree_21 : decode cX12_isOfOneDegree 21 = .ok (.aload_n 0, 1) := by decide +kernel
theorem dX12_isOfOneDegree_22 : decode cX12_isOfOneDegree 22 = .ok (.iload_n 1, 1) := by decide +kernel
theorem dX12_isOfOneDegree_23 : decode cX12_isOfOneDegree 23 = .ok (.iconst 0, 1) := by decide +kernel
theorem dX12_isOfOneDegree_24 : decode cX12_isOfOneDegree 24 = .ok (.invokevirtual 123, 3) := by decide +kernel
theorem dX12_isOfOneDegree_27 : decode cX12_isOfOneDegree 27 = .ok (.invokestatic 129, 3) := by decide +kernel
theorem dX12_isOfOneDegree_30 : decode cX12_isOfOneDegree 30 = .ok (.if_icmp .eq 5, 3) := by decide +kernel
theorem dX12_isOfOneDegree_33 : decode cX12_isOfOneDegree 33 = .ok (.iconst 0, 1) := by decide +kernel
theorem dX12_isOfOneDegree_34 : decode cX12_isOfOneDegree 34 = .ok (.ireturn, 1) := by decide +kernel
theorem dX12_isOfOneDegree_35 : decode cX12_isOfOneDegree 35 = .ok (.iinc 2 1, 3) := by decide +kernel
theorem dX12_isOfOneDegree_38 : decode cX12_isOfOneDegree 38 = .ok (.goto (-36), 3) := by decide +kernel
theorem dX12_isOfOneDegree_41 : decode cX12_isOfOneDegree 41 = .ok (.iconst 1, 1) := by decide +kernel
theorem dX12_isOfOneDegree_42 : decode cX12_isOfOneDegree 42 = .ok (.ireturn, 1) := by decide +kernel
theorem dX12_factors_0 : decode cX12_factors 0 = .ok (.aload_n 0, 1) := by decide +kernel
theorem dX12_factors_1 : decode cX12_factors 1 = .ok (.getfield 13, 3) := by decide +kernel
theorem dX12_factors_4 : decode cX12_factors 4 = .ok (.iload_n 1, 1) := by decide +kernel
theorem dX12_factors_5 : decode cX12_factors 5 = .ok (.iaload, 1) := by decide +kernel
theorem dX12_factors_6 : decode cX12_factors 6 = .ok (.ifCond .ne 5, 3) := by decide +kernel
theorem dX12_factors_9 : decode cX12_factors 9 = .ok (.iconst 0, 1) := by decide +kernel
theorem dX12_factors_10 : decode cX12_factors 10 = .ok (.ireturn, 1) := by decide +kernel
theorem dX12_factors_11 : decode cX12_factors 11 = .ok (.aload_n 0, 1) := by decide +kernel
theorem dX12_factors_12 : decode cX12_factors 12 = .ok (.iload_n 1, 1) := by decide +kernel
theorem dX12_factors_13 : decode cX12_factors 13 = .ok (.invokevirtual 256, 3) := by decide +kernel
theorem dX12_factors_16 : decode cX12_factors 16 = .ok (.iconst 0, 1) := by decide +kernel
theorem dX12_factors_17 : decode cX12_factors 17 = .ok (.istore_n 3, 1) := by decide +kernel
theorem dX12_factors_18 : decode cX12_factors 18 = .ok (.aload_n 0, 1) := by decide +kernel
theorem dX12_factors_19 : decode cX12_factors 19 = .ok (.invokevirtual 259, 3) := by decide +kernel
theorem dX12_factors_22 : decode cX12_factors 22 = .ok (.istore 4, 2) := by decide +kernel
theorem dX12_factors_24 : decode cX12_factors 24 = .ok (.iconst 0, 1) := by decide +kernel
theorem dX12_factors_25 : decode cX12_factors 25 = .ok (.istore 5, 2) := by decide +kernel
theorem dX12_factors_27 : decode cX12_factors 27 = .ok (.iload 5, 2) := by decide +kernel
theorem dX12_factors_29 : decode cX12_factors 29 = .ok (.iload 4, 2) := by decide +kernel
theorem dX12_factors_31 : decode cX12_factors 31 = .ok (.if_icmp .ge 40, 3) := by decide +kernel
theorem dX12_factors_34 : decode cX12_factors 34 = .ok (.aload_n 0, 1) := by decide +kernel
theorem dX12_factors_35 : decode cX12_factors 35 = .ok (.iload 5, 2) := by decide +kernel
theorem dX12_factors_37 : decode cX12_factors 37 = .ok (.invokevirtual 262, 3) := by decide +kernel
theorem dX12_factors_40 : decode cX12_factors 40 = .ok (.aload_n 0, 1) := by decide +kernel
theorem dX12_factors_41 : decode cX12_factors 41 = .ok (.iload_n 1, 1) := by decide +kernel
theorem dX12_factors_42 : decode cX12_factors 42 = .ok (.invokevirtual 333, 3) := by decide +kernel
theorem dX12_factors_45 : decode cX12_factors 45 = .ok (.istore 6, 2) := by decide +kernel
theorem dX12_factors_47 : decode cX12_factors 47 = .ok (.iload_n 3, 1) := by decide +kernel
theorem dX12_factors_48 : decode cX12_factors 48 = .ok (.iload_n 2, 1) := by decide +kernel
theorem dX12_factors_49 : decode cX12_factors 49 = .ok (.ifCond .eq 8, 3) := by decide +kernel
theorem dX12_factors_52 : decode cX12_factors 52 = .ok (.iload 6, 2) := by decide +kernel
theorem dX12_factors_54 : decode cX12_factors 54 = .ok (.goto 9, 3) := by decide +kernel
theorem dX12_factors_57 : decode cX12_factors 57 = .ok (.iconst 1, 1) := by decide +kernel
theorem dX12_factors_58 : decode cX12_factors 58 = .ok (.iload 6, 2) := by decide +kernel
theorem dX12_factors_60 : decode cX12_factors 60 = .ok (.invokestatic 336, 3) := by decide +kernel
theorem dX12_factors_63 : decode cX12_factors 63 = .ok (.iadd, 1) := by decide +kernel
theorem dX12_factors_64 : decode cX12_factors 64 = .ok (.istore_n 3, 1) := by decide +kernel
theorem dX12_factors_65 : decode cX12_factors 65 = .ok (.iinc 5 1, 3) := by decide +kernel
theorem dX12_factors_68 : decode cX12_factors 68 = .ok (.goto (-41), 3) := by decide +kernel
theorem dX12_factors_71 : decode cX12_factors 71 = .ok (.iload_n 3, 1) := by decide +kernel
theorem dX12_factors_72 : decode cX12_factors 72 = .ok (.ireturn, 1) := by decide +kernel
theorem dX12_factor_0 : decode cX12_factor 0 = .ok (.aload_n 0, 1) := by decide +kernel
theorem dX12_factor_1 : decode cX12_factor 1 = .ok (.iconst 0, 1) := by decide +kernel
theorem dX12_factor_2 : decode cX12_factor 2 = .ok (.putfield 116, 3) := by decide +kernel
theorem dX12_factor_5 : decode cX12_factor 5 = .ok (.iload_n 1, 1) := by decide +kernel
theorem dX12_factor_6 : decode cX12_factor 6 = .ok (.invokestatic 265, 3) := by decide +kernel
theorem dX12_factor_9 : decode cX12_factor 9 = .ok (.ifCond .eq 25, 3) := by decide +kernel
theorem dX12_factor_12 : decode cX12_factor 12 = .ok (.iload_n 2, 1) := by decide +kernel
theorem dX12_factor_13 : decode cX12_factor 13 = .ok (.ifCond .lt 21, 3) := by decide +kernel
theorem dX12_factor_16 : decode cX12_factor 16 = .ok (.iload_n 3, 1) := by decide +kernel
theorem dX12_factor_17 : decode cX12_factor 17 = .ok (.iconst 0, 1) := by decide +kernel
theorem dX12_factor_18 : decode cX12_factor 18 = .ok (.iconst 4, 1) := by decide +kernel
theorem dX12_factor_19 : decode cX12_factor 19 = .ok (.invokestatic 181, 3) := by decide +kernel
theorem dX12_factor_22 : decode cX12_factor 22 = .ok (.ifCond .eq 12, 3) := by decide +kernel
theorem dX12_factor_25 : decode cX12_factor 25 = .ok (.aload_n 0, 1) := by decide +kernel
theorem dX12_factor_26 : decode cX12_factor 26 = .ok (.getfield 13, 3) := by decide +kernel
theorem dX12_factor_29 : decode cX12_factor 29 = .ok (.iload_n 1, 1) := by decide +kernel
theorem dX12_factor_30 : decode cX12_factor 30 = .ok (.iaload, 1) := by decide +kernel
theorem dX12_factor_31 : decode cX12_factor 31 = .ok (.ifCond .ne 9, 3) := by decide +kernel
theorem dX12_factor_34 : decode cX12_factor 34 = .ok (.aload_n 0, 1) := by decide +kernel
theorem dX12_factor_35 : decode cX12_factor 35 = .ok (.iconst 1, 1) := by decide +kernel
theorem dX12_factor_36 : decode cX12_factor 36 = .ok (.invokevirtual 317, 3) := by decide +kernel
theorem dX12_factor_39 : decode cX12_factor 39 = .ok (.ireturn, 1) := by decide +kernel
theorem dX12_factor_40 : decode cX12_factor 40 = .ok (.aload_n 0, 1) := by decide +kernel
theorem dX12_factor_41 : decode cX12_factor 41 = .ok (.iload_n 1, 1) := by decide +kernel
theorem dX12_factor_42 : decode cX12_factor 42 = .ok (.invokevirtual 256, 3) := by decide +kernel
theorem dX12_factor_45 : decode cX12_factor 45 = .ok (.iload_n 2, 1) := by decide +kernel
theorem dX12_factor_46 : decode cX12_factor 46 = .ok (.istore 4, 2) := by decide +kernel
theorem dX12_factor_48 : decode cX12_factor 48 = .ok (.aload_n 0, 1) := by decide +kernel
theorem dX12_factor_49 : decode cX12_factor 49 = .ok (.invokevirtual 259, 3) := by decide +kernel
theorem dX12_factor_52 : decode cX12_factor 52 = .ok (.istore 5, 2) := by decide +kernel
theorem dX12_factor_54 : decode cX12_factor 54 = .ok (.iconst 0, 1) := by decide +kernel
theorem dX12_factor_55 : decode cX12_factor 55 = .ok (.istore 6, 2) := by decide +kernel
theorem dX12_factor_57 : decode cX12_factor 57 = .ok (.iload 6, 2) := by decide +kernel
theorem dX12_factor_59 : decode cX12_factor 59 = .ok (.iload 5, 2) := by decide +kernel
theorem dX12_factor_61 : decode cX12_factor 61 = .ok (.if_icmp .ge 88, 3) := by decide +kernel
theorem dX12_factor_64 : decode cX12_factor 64 = .ok (.aload_n 0, 1) := by decide +kernel
theorem dX12_factor_65 : decode cX12_factor 65 = .ok (.iload 6, 2) := by decide +kernel
theorem dX12_factor_67 : decode cX12_factor 67 = .ok (.invokevirtual 262, 3) := by decide +kernel
theorem dX12_factor_70 : decode cX12_factor 70 = .ok (.aload_n 0, 1) := by decide +kernel
theorem dX12_factor_71 : decode cX12_factor 71 = .ok (.iload_n 1, 1) := by decide +kernel
theorem dX12_factor_72 : decode cX12_factor 72 = .ok (.invokevirtual 333, 3) := by decide +kernel
theorem dX12_factor_75 : decode cX12_factor 75 = .ok (.istore 7, 2) := by decide +kernel
theorem dX12_factor_77 : decode cX12_factor 77 = .ok (.iload 7, 2) := by decide +kernel
theorem dX12_factor_79 : decode cX12_factor 79 = .ok (.ifCond .ne 6, 3) := by decide +kernel
theorem dX12_factor_82 : decode cX12_factor 82 = .ok (.goto 61, 3) := by decide +kernel
theorem dX12_factor_85 : decode cX12_factor 85 = .ok (.iload 4, 2) := by decide +kernel
theorem dX12_factor_87 : decode cX12_factor 87 = .ok (.ifCond .ne 53, 3) := by decide +kernel
theorem dX12_factor_90 : decode cX12_factor 90 = .ok (.iload_n 3, 1) := by decide +kernel
theorem dX12_factor_91 : decode cX12_factor 91 = .ok (.ifCond .ne 10, 3) := by decide +kernel
theorem dX12_factor_94 : decode cX12_factor 94 = .ok (.aload_n 0, 1) := by decide +kernel
theorem dX12_factor_95 : decode cX12_factor 95 = .ok (.getfield 221, 3) := by decide +kernel
theorem dX12_factor_98 : decode cX12_factor 98 = .ok (.goto 41, 3) := by decide +kernel
theorem dX12_factor_101 : decode cX12_factor 101 = .ok (.iload_n 3, 1) := by decide +kernel
theorem dX12_factor_102 : decode cX12_factor 102 = .ok (.iconst 1, 1) := by decide +kernel
theorem dX12_factor_103 : decode cX12_factor 103 = .ok (.if_icmp .ne 10, 3) := by decide +kernel
theorem dX12_factor_106 : decode cX12_factor 106 = .ok (.aload_n 0, 1) := by decide +kernel
theorem dX12_factor_107 : decode cX12_factor 107 = .ok (.getfield 224, 3) := by decide +kernel
theorem dX12_factor_110 : decode cX12_factor 110 = .ok (.goto 29, 3) := by decide +kernel
theorem dX12_factor_113 : decode cX12_factor 113 = .ok (.iload_n 3, 1) := by decide +kernel
theorem dX12_factor_114 : decode cX12_factor 114 = .ok (.iconst 2, 1) := by decide +kernel
theorem dX12_factor_115 : decode cX12_factor 115 = .ok (.if_icmp .ne 10, 3) := by decide +kernel
theorem dX12_factor_118 : decode cX12_factor 118 = .ok (.aload_n 0, 1) := by decide +kernel
theorem dX12_factor_119 : decode cX12_factor 119 = .ok (.getfield 227, 3) := by decide +kernel
theorem dX12_factor_122 : decode cX12_factor 122 = .ok (.goto 17, 3) := by decide +kernel
theorem dX12_factor_125 : decode cX12_factor 125 = .ok (.iload_n 3, 1) := by decide +kernel
theorem dX12_factor_126 : decode cX12_factor 126 = .ok (.iconst 3, 1) := by decide +kernel
theorem dX12_factor_127 : decode cX12_factor 127 = .ok (.if_icmp .ne 10, 3) := by decide +kernel
theorem dX12_factor_130 : decode cX12_factor 130 = .ok (.aload_n 0, 1) := by decide +kernel
theorem dX12_factor_131 : decode cX12_factor 131 = .ok (.getfield 230, 3) := by decide +kernel
theorem dX12_factor_134 : decode cX12_factor 134 = .ok (.goto 5, 3) := by decide +kernel
theorem dX12_factor_137 : decode cX12_factor 137 = .ok (.iload 7, 2) := by decide +kernel
theorem dX12_factor_139 : decode cX12_factor 139 = .ok (.ireturn, 1) := by decide +kernel
theorem dX12_factor_140 : decode cX12_factor 140 = .ok (.iinc 4 (-1), 3) := by decide +kernel
theorem dX12_factor_143 : decode cX12_factor 143 = .ok (.iinc 6 1, 3) := by decide +kernel
theorem dX12_factor_146 : decode cX12_factor 146 = .ok (.goto (-89), 3) := by decide +kernel
theorem dX12_factor_149 : decode cX12_factor 149 = .ok (.aload_n 0, 1) := by decide +kernel
theorem dX12_factor_150 : decode cX12_factor 150 = .ok (.iconst 1, 1) := by decide +kernel
theorem dX12_factor_151 : decode cX12_factor 151 = .ok (.invokevirtual 317, 3) := by decide +kernel
theorem dX12_factor_154 : decode cX12_factor 154 = .ok (.ireturn, 1) := by decide +kernel
theorem dX12_often_0 : decode cX12_often 0 = .ok (.iload_n 2, 1) := by decide +kernel
theorem dX12_often_1 : decode cX12_often 1 = .ok (.ifCond .eq 7, 3) := by decide +kernel
theorem dX12_often_4 : decode cX12_often 4 = .ok (.iload_n 2, 1) := by decide +kernel
theorem dX12_often_5 : decode cX12_often 5 = .ok (.goto 13, 3) := by decide +kernel
theorem dX12_often_8 : decode cX12_often 8 = .ok (.iload_n 3, 1) := by decide +kernel
theorem dX12_often_9 : decode cX12_often 9 = .ok (.ifCond .eq 7, 3) := by decide +kernel
theorem dX12_often_12 : decode cX12_often 12 = .ok (.iload_n 3, 1) := by decide +kernel
theorem dX12_often_13 : decode cX12_often 13 = .ok (.goto 5, 3) := by decide +kernel
theorem dX12_often_16 : decode cX12_often 16 = .ok (.iload 4, 2) := by decide +kernel
theorem dX12_often_18 : decode cX12_often 18 = .ok (.istore 6, 2) := by decide +kernel
theorem dX12_often_20 : decode cX12_often 20 = .ok (.iload_n 2, 1) := by decide +kernel
theorem dX12_often_21 : decode cX12_often 21 = .ok (.iconst 0, 1) := by decide +kernel
theorem dX12_often_22 : decode cX12_often 22 = .ok (.aload_n 0, 1) := by decide +kernel
theorem dX12_often_23 : decode cX12_often 23 = .ok (.getfield 9, 3) := by decide +kernel
theorem dX12_often_26 : decode cX12_often 26 = .ok (.iconst 1, 1) := by decide +kernel
theorem dX12_often_27 : decode cX12_often 27 = .ok (.isub, 1) := by decide +kernel
theorem dX12_often_28 : decode cX12_often 28 = .ok (.invokestatic 181, 3) := by decide +kernel
theorem dX12_often_31 : decode cX12_often 31 = .ok (.ifCond .eq 57, 3) := by decide +kernel
theorem dX12_often_34 : decode cX12_often 34 = .ok (.iload_n 3, 1) := by decide +kernel
theorem dX12_often_35 : decode cX12_often 35 = .ok (.iconst 0, 1) := by decide +kernel
theorem dX12_often_36 : decode cX12_often 36 = .ok (.aload_n 0, 1) := by decide +kernel
theorem dX12_often_37 : decode cX12_often 37 = .ok (.getfield 9, 3) := by decide +kernel
theorem dX12_often_40 : decode cX12_often 40 = .ok (.iconst 1, 1) := by decide +kernel
theorem dX12_often_41 : decode cX12_often 41 = .ok (.isub, 1) := by decide +kernel
theorem dX12_often_42 : decode cX12_often 42 = .ok (.invokestatic 181, 3) := by decide +kernel
theorem dX12_often_45 : decode cX12_often 45 = .ok (.ifCond .eq 43, 3) := by decide +kernel
theorem dX12_often_48 : decode cX12_often 48 = .ok (.iload 4, 2) := by decide +kernel
theorem dX12_often_50 : decode cX12_often 50 = .ok (.iconst 0, 1) := by decide +kernel
theorem dX12_often_51 : decode cX12_often 51 = .ok (.aload_n 0, 1) := by decide +kernel
theorem dX12_often_52 : decode cX12_often 52 = .ok (.getfield 9, 3) := by decide +kernel
theorem dX12_often_55 : decode cX12_often 55 = .ok (.iconst 1, 1) := by decide +kernel
theorem dX12_often_56 : decode cX12_often 56 = .ok (.isub, 1) := by decide +kernel
theorem dX12_often_57 : decode cX12_often 57 = .ok (.invokestatic 181, 3) := by decide +kernel
theorem dX12_often_60 : decode cX12_often 60 = .ok (.ifCond .eq 28, 3) := by decide +kernel
theorem dX12_often_63 : decode cX12_often 63 = .ok (.iload 5, 2) := by decide +kernel
theorem dX12_often_65 : decode cX12_often 65 = .ok (.iconst 0, 1) := by decide +kernel
theorem dX12_often_66 : decode cX12_often 66 = .ok (.aload_n 0, 1) := by decide +kernel
theorem dX12_often_67 : decode cX12_often 67 = .ok (.getfield 9, 3) := by decide +kernel
theorem dX12_often_70 : decode cX12_often 70 = .ok (.iconst 1, 1) := by decide +kernel
theorem dX12_often_71 : decode cX12_often 71 = .ok (.isub, 1) := by decide +kernel
theorem dX12_often_72 : decode cX12_often 72 = .ok (.invokestatic 181, 3) := by decide +kernel
theorem dX12_often_75 : decode cX12_often 75 = .ok (.ifCond .eq 13, 3) := by decide +kernel
theorem dX12_often_78 : decode cX12_often 78 = .ok (.iload 6, 2) := by decide +kernel
theorem dX12_often_80 : decode cX12_often 80 = .ok (.iconst 1, 1) := by decide +kernel
theorem dX12_often_81 : decode cX12_often 81 = .ok (.if_icmp .ne 7, 3) := by decide +kernel
theorem dX12_often_84 : decode cX12_often 84 = .ok (.iconst 1, 1) := by decide +kernel
theorem dX12_often_85 : decode cX12_often 85 = .ok (.goto 4, 3) := by decide +kernel
theorem dX12_often_88 : decode cX12_often 88 = .ok (.iconst 0, 1) := by decide +kernel
theorem dX12_often_89 : decode cX12_often 89 = .ok (.istore 7, 2) := by decide +kernel
theorem dX12_often_91 : decode cX12_often 91 = .ok (.aload_n 0, 1) := by decide +kernel
theorem dX12_often_92 : decode cX12_often 92 = .ok (.iload_n 1, 1) := by decide +kernel
theorem dX12_often_93 : decode cX12_often 93 = .ok (.invokestatic 265, 3) := by decide +kernel
theorem dX12_often_96 : decode cX12_often 96 = .ok (.ifCond .ne 7, 3) := by decide +kernel
theorem dX12_often_99 : decode cX12_often 99 = .ok (.iconst 1, 1) := by decide +kernel
theorem dX12_often_100 : decode cX12_often 100 = .ok (.goto 13, 3) := by decide +kernel
theorem dX12_often_103 : decode cX12_often 103 = .ok (.iload 7, 2) := by decide +kernel
theorem dX12_often_105 : decode cX12_often 105 = .ok (.ifCond .ne 7, 3) := by decide +kernel
theorem dX12_often_108 : decode cX12_often 108 = .ok (.iconst 2, 1) := by decide +kernel
theorem dX12_often_109 : decode cX12_often 109 = .ok (.goto 4, 3) := by decide +kernel
theorem dX12_often_112 : decode cX12_often 112 = .ok (.iconst 0, 1) := by decide +kernel
theorem dX12_often_113 : decode cX12_often 113 = .ok (.putfield 116, 3) := by decide +kernel
theorem dX12_often_116 : decode cX12_often 116 = .ok (.aload_n 0, 1) := by decide +kernel
theorem dX12_often_117 : decode cX12_often 117 = .ok (.getfield 116, 3) := by decide +kernel
theorem dX12_often_120 : decode cX12_often 120 = .ok (.ifCond .le 5, 3) := by decide +kernel
theorem dX12_often_123 : decode cX12_often 123 = .ok (.iconst 0, 1) := by decide +kernel
theorem dX12_often_124 : decode cX12_often 124 = .ok (.ireturn, 1) := by decide +kernel
theorem dX12_often_125 : decode cX12_often 125 = .ok (.aload_n 0, 1) := by decide +kernel
theorem dX12_often_126 : decode cX12_often 126 = .ok (.getfield 13, 3) := by decide +kernel
theorem dX12_often_129 : decode cX12_often 129 = .ok (.iload_n 1, 1) := by decide +kernel
theorem dX12_often_130 : decode cX12_often 130 = .ok (.iaload, 1) := by decide +kernel
theorem dX12_often_131 : decode cX12_often 131 = .ok (.ifCond .ne 5, 3) := by decide +kernel
theorem dX12_often_134 : decode cX12_often 134 = .ok (.iconst (-1), 1) := by decide +kernel
theorem dX12_often_135 : decode cX12_often 135 = .ok (.ireturn, 1) := by decide +kernel
theorem dX12_often_136 : decode cX12_often 136 = .ok (.aload_n 0, 1) := by decide +kernel
theorem dX12_often_137 : decode cX12_often 137 = .ok (.iload_n 2, 1) := by decide +kernel
theorem dX12_often_138 : decode cX12_often 138 = .ok (.putfield 221, 3) := by decide +kernel
theorem dX12_often_141 : decode cX12_often 141 = .ok (.aload_n 0, 1) := by decide +kernel
theorem dX12_often_142 : decode cX12_often 142 = .ok (.iload_n 3, 1) := by decide +kernel
theorem dX12_often_143 : decode cX12_often 143 = .ok (.putfield 224, 3) := by decide +kernel
theorem dX12_often_146 : decode cX12_often 146 = .ok (.aload_n 0, 1) := by decide +kernel
theorem dX12_often_147 : decode cX12_often 147 = .ok (.iload 4, 2) := by decide +kernel
theorem dX12_often_149 : decode cX12_often 149 = .ok (.putfield 227, 3) := by decide +kernel
theorem dX12_often_152 : decode cX12_often 152 = .ok (.aload_n 0, 1) := by decide +kernel
theorem dX12_often_153 : decode cX12_often 153 = .ok (.iload 5, 2) := by decide +kernel
theorem dX12_often_155 : decode cX12_often 155 = .ok (.putfield 230, 3) := by decide +kernel
theorem dX12_often_158 : decode cX12_often 158 = .ok (.aload_n 0, 1) := by decide +kernel
theorem dX12_often_159 : decode cX12_often 159 = .ok (.iload_n 1, 1) := by decide +kernel
theorem dX12_often_160 : decode cX12_often 160 = .ok (.invokevirtual 256, 3) := by decide +kernel
theorem dX12_often_163 : decode cX12_often 163 = .ok (.aload_n 0, 1) := by decide +kernel
theorem dX12_often_164 : decode cX12_often 164 = .ok (.iload_n 1, 1) := by decide +kernel
theorem dX12_often_165 : decode cX12_often 165 = .ok (.invokevirtual 333, 3) := by decide +kernel
theorem dX12_often_168 : decode cX12_often 168 = .ok (.ireturn, 1) := by decide +kernel
theorem dX12_isAhead_0 : decode cX12_isAhead 0 = .ok (.iload_n 2, 1) := by decide +kernel
theorem dX12_isAhead_1 : decode cX12_isAhead 1 = .ok (.ifCond .ne 15, 3) := by decide +kernel
theorem dX12_isAhead_4 : decode cX12_isAhead 4 = .ok (.iload_n 0, 1) := by decide +kernel
theorem dX12_isAhead_5 : decode cX12_isAhead 5 = .ok (.invokestatic 129, 3) := by decide +kernel
theorem dX12_isAhead_8 : decode cX12_isAhead 8 = .ok (.iload_n 1, 1) := by decide +kernel
theorem dX12_isAhead_9 : decode cX12_isAhead 9 = .ok (.invokestatic 129, 3) := by decide +kernel
theorem dX12_isAhead_12 : decode cX12_isAhead 12 = .ok (.isub, 1) := by decide +kernel
theorem dX12_isAhead_13 : decode cX12_isAhead 13 = .ok (.goto 4, 3) := by decide +kernel
theorem dX12_isAhead_16 : decode cX12_isAhead 16 = .ok (.iconst 0, 1) := by decide +kernel
theorem dX12_isAhead_17 : decode cX12_isAhead 17 = .ok (.istore_n 3, 1) := by decide +kernel
theorem dX12_isAhead_18 : decode cX12_isAhead 18 = .ok (.iload_n 3, 1) := by decide +kernel
theorem dX12_isAhead_19 : decode cX12_isAhead 19 = .ok (.ifCond .eq 13, 3) := by decide +kernel
theorem dX12_isAhead_22 : decode cX12_isAhead 22 = .ok (.iload_n 3, 1) := by decide +kernel
theorem dX12_isAhead_23 : decode cX12_isAhead 23 = .ok (.ifCond .le 7, 3) := by decide +kernel
theorem dX12_isAhead_26 : decode cX12_isAhead 26 = .ok (.iconst 1, 1) := by decide +kernel
theorem dX12_isAhead_27 : decode cX12_isAhead 27 = .ok (.goto 4, 3) := by decide +kernel
theorem dX12_isAhead_30 : decode cX12_isAhead 30 = .ok (.iconst 0, 1) := by decide +kernel
theorem dX12_isAhead_31 : decode cX12_isAhead 31 = .ok (.ireturn, 1) := by decide +kernel
theorem dX12_isAhead_32 : decode cX12_isAhead 32 = .ok (.iconst 0, 1) := by decide +kernel
theorem dX12_isAhead_33 : decode cX12_isAhead 33 = .ok (.istore 4, 2) := by decide +kernel
theorem dX12_isAhead_35 : decode cX12_isAhead 35 = .ok (.iload 4, 2) := by decide +kernel
theorem dX12_isAhead_37 : decode cX12_isAhead 37 = .ok (.iconst 3, 1) := by decide +kernel
theorem dX12_isAhead_38 : decode cX12_isAhead 38 = .ok (.if_icmp .ge 61, 3) := by decide +kernel
theorem dX12_isAhead_41 : decode cX12_isAhead 41 = .ok (.iload_n 2, 1) := by decide +kernel
theorem dX12_isAhead_42 : decode cX12_isAhead 42 = .ok (.iconst 2, 1) := by decide +kernel
theorem dX12_isAhead_43 : decode cX12_isAhead 43 = .ok (.if_icmp .ne 10, 3) := by decide +kernel
theorem dX12_isAhead_46 : decode cX12_isAhead 46 = .ok (.iconst 2, 1) := by decide +kernel
theorem dX12_isAhead_47 : decode cX12_isAhead 47 = .ok (.iload 4, 2) := by decide +kernel
theorem dX12_isAhead_49 : decode cX12_isAhead 49 = .ok (.isub, 1) := by decide +kernel
theorem dX12_isAhead_50 : decode cX12_isAhead 50 = .ok (.goto 5, 3) := by decide +kernel
theorem dX12_isAhead_53 : decode cX12_isAhead 53 = .ok (.iload 4, 2) := by decide +kernel
theorem dX12_isAhead_55 : decode cX12_isAhead 55 = .ok (.istore 5, 2) := by decide +kernel
theorem dX12_isAhead_57 : decode cX12_isAhead 57 = .ok (.iload_n 0, 1) := by decide +kernel
theorem dX12_isAhead_58 : decode cX12_isAhead 58 = .ok (.iload 5, 2) := by decide +kernel
theorem dX12_isAhead_60 : decode cX12_isAhead 60 = .ok (.invokestatic 119, 3) := by decide +kernel
theorem dX12_isAhead_63 : decode cX12_isAhead 63 = .ok (.iload_n 1, 1) := by decide +kernel
theorem dX12_isAhead_64 : decode cX12_isAhead 64 = .ok (.iload 5, 2) := by decide +kernel
theorem dX12_isAhead_66 : decode cX12_isAhead 66 = .ok (.invokestatic 119, 3) := by decide +kernel
theorem dX12_isAhead_69 : decode cX12_isAhead 69 = .ok (.if_icmp .eq 24, 3) := by decide +kernel
theorem dX12_isAhead_72 : decode cX12_isAhead 72 = .ok (.iload_n 0, 1) := by decide +kernel
theorem dX12_isAhead_73 : decode cX12_isAhead 73 = .ok (.iload 5, 2) := by decide +kernel
theorem dX12_isAhead_75 : decode cX12_isAhead 75 = .ok (.invokestatic 119, 3) := by decide +kernel
theorem dX12_isAhead_78 : decode cX12_isAhead 78 = .ok (.iload_n 1, 1) := by decide +kernel
theorem dX12_isAhead_79 : decode cX12_isAhead 79 = .ok (.iload 5, 2) := by decide +kernel
theorem dX12_isAhead_81 : decode cX12_isAhead 81 = .ok (.invokestatic 119, 3) := by decide +kernel
theorem dX12_isAhead_84 : decode cX12_isAhead 84 = .ok (.if_icmp .le 7, 3) := by decide +kernel
theorem dX12_isAhead_87 : decode cX12_isAhead 87 = .ok (.iconst 1, 1) := by decide +kernel
theorem dX12_isAhead_88 : decode cX12_isAhead 88 = .ok (.goto 4, 3) := by decide +kernel
theorem dX12_isAhead_91 : decode cX12_isAhead 91 = .ok (.iconst 0, 1) := by decide +kernel
theorem dX12_isAhead_92 : decode cX12_isAhead 92 = .ok (.ireturn, 1) := by decide +kernel
theorem dX12_isAhead_93 : decode cX12_isAhead 93 = .ok (.iinc 4 1, 3) := by decide +kernel
theorem dX12_isAhead_96 : decode cX12_isAhead 96 = .ok (.goto (-61), 3) := by decide +kernel
theorem dX12_isAhead_99 : decode cX12_isAhead 99 = .ok (.iconst 0, 1) := by decide +kernel
theorem dX12_isAhead_100 : decode cX12_isAhead 100 = .ok (.ireturn, 1) := by decide +kernel
theorem dX12_placeOf_0 : decode cX12_placeOf 0 = .ok (.iconst 0, 1) := by decide +kernel
theorem dX12_placeOf_1 : decode cX12_placeOf 1 = .ok (.istore 4, 2) := by decide +kernel
theorem dX12_placeOf_3 : decode cX12_placeOf 3 = .ok (.iload 4, 2) := by decide +kernel
theorem dX12_placeOf_5 : decode cX12_placeOf 5 = .ok (.aload_n 0, 1) := by decide +kernel
theorem dX12_placeOf_6 : decode cX12_placeOf 6 = .ok (.getfield 13, 3) := by decide +kernel
theorem dX12_placeOf_9 : decode cX12_placeOf 9 = .ok (.iload_n 1, 1) := by decide +kernel
theorem dX12_placeOf_10 : decode cX12_placeOf 10 = .ok (.iaload, 1) := by decide +kernel
theorem dX12_placeOf_11 : decode cX12_placeOf 11 = .ok (.if_icmp .ge 72, 3) := by decide +kernel
theorem dX12_placeOf_14 : decode cX12_placeOf 14 = .ok (.iconst 0, 1) := by decide +kernel
theorem dX12_placeOf_15 : decode cX12_placeOf 15 = .ok (.istore 5, 2) := by decide +kernel
theorem dX12_placeOf_17 : decode cX12_placeOf 17 = .ok (.iconst 0, 1) := by decide +kernel
theorem dX12_placeOf_18 : decode cX12_placeOf 18 = .ok (.istore 6, 2) := by decide +kernel
theorem dX12_placeOf_20 : decode cX12_placeOf 20 = .ok (.iload 6, 2) := by decide +kernel
theorem dX12_placeOf_22 : decode cX12_placeOf 22 = .ok (.aload_n 0, 1) := by decide +kernel
theorem dX12_placeOf_23 : decode cX12_placeOf 23 = .ok (.getfield 13, 3) := by decide +kernel
theorem dX12_placeOf_26 : decode cX12_placeOf 26 = .ok (.iload_n 1, 1) := by decide +kernel
theorem dX12_placeOf_27 : decode cX12_placeOf 27 = .ok (.iaload, 1) := by decide +kernel
theorem dX12_placeOf_28 : decode cX12_placeOf 28 = .ok (.if_icmp .ge 40, 3) := by decide +kernel
theorem dX12_placeOf_31 : decode cX12_placeOf 31 = .ok (.iload 5, 2) := by decide +kernel
theorem dX12_placeOf_33 : decode cX12_placeOf 33 = .ok (.aload_n 0, 1) := by decide +kernel
theorem dX12_placeOf_34 : decode cX12_placeOf 34 = .ok (.iload_n 1, 1) := by decide +kernel
theorem dX12_placeOf_35 : decode cX12_placeOf 35 = .ok (.iload 6, 2) := by decide +kernel
theorem dX12_placeOf_37 : decode cX12_placeOf 37 = .ok (.invokevirtual 123, 3) := by decide +kernel
theorem dX12_placeOf_40 : decode cX12_placeOf 40 = .ok (.aload_n 0, 1) := by decide +kernel
theorem dX12_placeOf_41 : decode cX12_placeOf 41 = .ok (.iload_n 1, 1) := by decide +kernel
theorem dX12_placeOf_42 : decode cX12_placeOf 42 = .ok (.iload 4, 2) := by decide +kernel
theorem dX12_placeOf_44 : decode cX12_placeOf 44 = .ok (.invokevirtual 123, 3) := by decide +kernel
theorem dX12_placeOf_47 : decode cX12_placeOf 47 = .ok (.iload_n 2, 1) := by decide +kernel
theorem dX12_placeOf_48 : decode cX12_placeOf 48 = .ok (.invokestatic 339, 3) := by decide +kernel
theorem dX12_placeOf_51 : decode cX12_placeOf 51 = .ok (.ifCond .eq 7, 3) := by decide +kernel
theorem dX12_placeOf_54 : decode cX12_placeOf 54 = .ok (.iconst 1, 1) := by decide +kernel
theorem dX12_placeOf_55 : decode cX12_placeOf 55 = .ok (.goto 4, 3) := by decide +kernel
theorem dX12_placeOf_58 : decode cX12_placeOf 58 = .ok (.iconst 0, 1) := by decide +kernel
theorem dX12_placeOf_59 : decode cX12_placeOf 59 = .ok (.iadd, 1) := by decide +kernel
theorem dX12_placeOf_60 : decode cX12_placeOf 60 = .ok (.istore 5, 2) := by decide +kernel
theorem dX12_placeOf_62 : decode cX12_placeOf 62 = .ok (.iinc 6 1, 3) := by decide +kernel
theorem dX12_placeOf_65 : decode cX12_placeOf 65 = .ok (.goto (-45), 3) := by decide +kernel
theorem dX12_placeOf_68 : decode cX12_placeOf 68 = .ok (.iload 5, 2) := by decide +kernel
theorem dX12_placeOf_70 : decode cX12_placeOf 70 = .ok (.iload_n 3, 1) := by decide +kernel
theorem dX12_placeOf_71 : decode cX12_placeOf 71 = .ok (.if_icmp .ne 6, 3) := by decide +kernel
theorem dX12_placeOf_74 : decode cX12_placeOf 74 = .ok (.iload 4, 2) := by decide +kernel
theorem dX12_placeOf_76 : decode cX12_placeOf 76 = .ok (.ireturn, 1) := by decide +kernel
theorem dX12_placeOf_77 : decode cX12_placeOf 77 = .ok (.iinc 4 1, 3) := by decide +kernel
theorem dX12_placeOf_80 : decode cX12_placeOf 80 = .ok (.goto (-77), 3) := by decide +kernel
theorem dX12_placeOf_83 : decode cX12_placeOf 83 = .ok (.iconst (-1), 1) := by decide +kernel
theorem dX12_placeOf_84 : decode cX12_placeOf 84 = .ok (.ireturn, 1) := by decide +kernel
theorem dX12_term_0 : decode cX12_term 0 = .ok (.aload_n 0, 1) := by decide +kernel
theorem dX12_term_1 : decode cX12_term 1 = .ok (.iconst 0, 1) := by decide +kernel
theorem dX12_term_2 : decode cX12_term 2 = .ok (.putfield 116, 3) := by decide +kernel
theorem dX12_term_5 : decode cX12_term 5 = .ok (.iload_n 1, 1) := by decide +kernel
theorem dX12_term_6 : decode cX12_term 6 = .ok (.invokestatic 265, 3) := by decide +kernel
theorem dX12_term_9 : decode cX12_term 9 = .ok (.ifCond .eq 38, 3) := by decide +kernel
theorem dX12_term_12 : decode cX12_term 12 = .ok (.iload_n 2, 1) := by decide +kernel
theorem dX12_term_13 : decode cX12_term 13 = .ok (.iconst 0, 1) := by decide +kernel
theorem dX12_term_14 : decode cX12_term 14 = .ok (.iconst 2, 1) := by decide +kernel
theorem dX12_term_15 : decode cX12_term 15 = .ok (.invokestatic 181, 3) := by decide +kernel
theorem dX12_term_18 : decode cX12_term 18 = .ok (.ifCond .eq 29, 3) := by decide +kernel
theorem dX12_term_21 : decode cX12_term 21 = .ok (.iload_n 3, 1) := by decide +kernel
theorem dX12_term_22 : decode cX12_term 22 = .ok (.iconst 0, 1) := by decide +kernel
theorem dX12_term_23 : decode cX12_term 23 = .ok (.aload_n 0, 1) := by decide +kernel
theorem dX12_term_24 : decode cX12_term 24 = .ok (.getfield 13, 3) := by decide +kernel
theorem dX12_term_27 : decode cX12_term 27 = .ok (.iload_n 1, 1) := by decide +kernel
theorem dX12_term_28 : decode cX12_term 28 = .ok (.iaload, 1) := by decide +kernel
theorem dX12_term_29 : decode cX12_term 29 = .ok (.iconst 1, 1) := by decide +kernel
theorem dX12_term_30 : decode cX12_term 30 = .ok (.isub, 1) := by decide +kernel
theorem dX12_term_31 : decode cX12_term 31 = .ok (.invokestatic 181, 3) := by decide +kernel
theorem dX12_term_34 : decode cX12_term 34 = .ok (.ifCond .eq 13, 3) := by decide +kernel
theorem dX12_term_37 : decode cX12_term 37 = .ok (.iload 4, 2) := by decide +kernel
theorem dX12_term_39 : decode cX12_term 39 = .ok (.iconst 0, 1) := by decide +kernel
theorem dX12_term_40 : decode cX12_term 40 = .ok (.iconst 3, 1) := by decide +kernel
theorem dX12_term_41 : decode cX12_term 41 = .ok (.invokestatic 181, 3) := by decide +kernel
theorem dX12_term_44 : decode cX12_term 44 = .ok (.ifCond .ne 9, 3) := by decide +kernel
theorem dX12_term_47 : decode cX12_term 47 = .ok (.aload_n 0, 1) := by decide +kernel
theorem dX12_term_48 : decode cX12_term 48 = .ok (.iconst 1, 1) := by decide +kernel
theorem dX12_term_49 : decode cX12_term 49 = .ok (.invokevirtual 317, 3) := by decide +kernel
theorem dX12_term_52 : decode cX12_term 52 = .ok (.ireturn, 1) := by decide +kernel
theorem dX12_term_53 : decode cX12_term 53 = .ok (.aload_n 0, 1) := by decide +kernel
theorem dX12_term_54 : decode cX12_term 54 = .ok (.iload_n 1, 1) := by decide +kernel
theorem dX12_term_55 : decode cX12_term 55 = .ok (.iload_n 2, 1) := by decide +kernel
theorem dX12_term_56 : decode cX12_term 56 = .ok (.iload_n 3, 1) := by decide +kernel
theorem dX12_term_57 : decode cX12_term 57 = .ok (.invokevirtual 342, 3) := by decide +kernel
theorem dX12_term_60 : decode cX12_term 60 = .ok (.istore 5, 2) := by decide +kernel
theorem dX12_term_62 : decode cX12_term 62 = .ok (.iload 4, 2) := by decide +kernel
theorem dX12_term_64 : decode cX12_term 64 = .ok (.ifCond .ne 13, 3) := by decide +kernel
theorem dX12_term_67 : decode cX12_term 67 = .ok (.aload_n 0, 1) := by decide +kernel
theorem dX12_term_68 : decode cX12_term 68 = .ok (.iload_n 1, 1) := by decide +kernel
theorem dX12_term_69 : decode cX12_term 69 = .ok (.iload 5, 2) := by decide +kernel
theorem dX12_term_71 : decode cX12_term 71 = .ok (.invokevirtual 126, 3) := by decide +kernel
theorem dX12_term_74 : decode cX12_term 74 = .ok (.goto 17, 3) := by decide +kernel
theorem dX12_term_77 : decode cX12_term 77 = .ok (.aload_n 0, 1) := by decide +kernel
theorem dX12_term_78 : decode cX12_term 78 = .ok (.iload_n 1, 1) := by decide +kernel
theorem dX12_term_79 : decode cX12_term 79 = .ok (.iload 5, 2) := by decide +kernel
theorem dX12_term_81 : decode cX12_term 81 = .ok (.invokevirtual 123, 3) := by decide +kernel
theorem dX12_term_84 : decode cX12_term 84 = .ok (.iload 4, 2) := by decide +kernel
theorem dX12_term_86 : decode cX12_term 86 = .ok (.iconst 1, 1) := by decide +kernel
theorem dX12_term_87 : decode cX12_term 87 = .ok (.isub, 1) := by decide +kernel
theorem dX12_term_88 : decode cX12_term 88 = .ok (.invokestatic 119, 3) := by decide +kernel
theorem dX12_term_91 : decode cX12_term 91 = .ok (.ireturn, 1) := by decide +kernel
theorem dX12_number__0 : decode cX12_number_ 0 = .ok (.aload_n 0, 1) := by decide +kernel
theorem dX12_number__1 : decode cX12_number_ 1 = .ok (.iload_n 1, 1) := by decide +kernel
theorem dX12_number__2 : decode cX12_number_ 2 = .ok (.invokestatic 265, 3) := by decide +kernel
theorem dX12_number__5 : decode cX12_number_ 5 = .ok (.ifCond .ne 7, 3) := by decide +kernel
theorem dX12_number__8 : decode cX12_number_ 8 = .ok (.iconst 1, 1) := by decide +kernel
theorem dX12_number__9 : decode cX12_number_ 9 = .ok (.goto 21, 3) := by decide +kernel
theorem dX12_number__12 : decode cX12_number_ 12 = .ok (.iload_n 2, 1) := by decide +kernel
theorem dX12_number__13 : decode cX12_number_ 13 = .ok (.ifCond .lt 12, 3) := by decide +kernel
theorem dX12_number__16 : decode cX12_number_ 16 = .ok (.iload_n 3, 1) := by decide +kernel
theorem dX12_number__17 : decode cX12_number_ 17 = .ok (.ifCond .lt 8, 3) := by decide +kernel
theorem dX12_number__20 : decode cX12_number_ 20 = .ok (.iload 4, 2) := by decide +kernel
theorem dX12_number__22 : decode cX12_number_ 22 = .ok (.ifCond .ge 7, 3) := by decide +kernel
theorem dX12_number__25 : decode cX12_number_ 25 = .ok (.iconst 2, 1) := by decide +kernel
theorem dX12_number__26 : decode cX12_number_ 26 = .ok (.goto 4, 3) := by decide +kernel
theorem dX12_number__29 : decode cX12_number_ 29 = .ok (.iconst 0, 1) := by decide +kernel
theorem dX12_number__30 : decode cX12_number_ 30 = .ok (.putfield 116, 3) := by decide +kernel
theorem dX12_number__33 : decode cX12_number_ 33 = .ok (.aload_n 0, 1) := by decide +kernel
theorem dX12_number__34 : decode cX12_number_ 34 = .ok (.getfield 116, 3) := by decide +kernel
theorem dX12_number__37 : decode cX12_number_ 37 = .ok (.ifCond .gt 22, 3) := by decide +kernel
theorem dX12_number__40 : decode cX12_number_ 40 = .ok (.iload_n 2, 1) := by decide +kernel
theorem dX12_number__41 : decode cX12_number_ 41 = .ok (.bipush 40, 2) := by decide +kernel
theorem dX12_number__43 : decode cX12_number_ 43 = .ok (.if_icmp .gt 16, 3) := by decide +kernel
theorem dX12_number__46 : decode cX12_number_ 46 = .ok (.iload_n 3, 1) := by decide +kernel
theorem dX12_number__47 : decode cX12_number_ 47 = .ok (.bipush 40, 2) := by decide +kernel
theorem dX12_number__49 : decode cX12_number_ 49 = .ok (.if_icmp .gt 10, 3) := by decide +kernel
theorem dX12_number__52 : decode cX12_number_ 52 = .ok (.iload 4, 2) := by decide +kernel
theorem dX12_number__54 : decode cX12_number_ 54 = .ok (.bipush 40, 2) := by decide +kernel
theorem dX12_number__56 : decode cX12_number_ 56 = .ok (.if_icmp .le 5, 3) := by decide +kernel
theorem dX12_number__59 : decode cX12_number_ 59 = .ok (.iconst 0, 1) := by decide +kernel
theorem dX12_number__60 : decode cX12_number_ 60 = .ok (.ireturn, 1) := by decide +kernel
theorem dX12_number__61 : decode cX12_number_ 61 = .ok (.iconst 0, 1) := by decide +kernel
theorem dX12_number__62 : decode cX12_number_ 62 = .ok (.istore 5, 2) := by decide +kernel
theorem dX12_number__64 : decode cX12_number_ 64 = .ok (.iload 5, 2) := by decide +kernel
theorem dX12_number__66 : decode cX12_number_ 66 = .ok (.aload_n 0, 1) := by decide +kernel
theorem dX12_number__67 : decode cX12_number_ 67 = .ok (.getfield 13, 3) := by decide +kernel
theorem dX12_number__70 : decode cX12_number_ 70 = .ok (.iload_n 1, 1) := by decide +kernel
theorem dX12_number__71 : decode cX12_number_ 71 = .ok (.iaload, 1) := by decide +kernel
theorem dX12_number__72 : decode cX12_number_ 72 = .ok (.if_icmp .ge 34, 3) := by decide +kernel
theorem dX12_number__75 : decode cX12_number_ 75 = .ok (.aload_n 0, 1) := by decide +kernel
theorem dX12_number__76 : decode cX12_number_ 76 = .ok (.iload_n 1, 1) := by decide +kernel
theorem dX12_number__77 : decode cX12_number_ 77 = .ok (.iload 5, 2) := by decide +kernel
theorem dX12_number__79 : decode cX12_number_ 79 = .ok (.invokevirtual 123, 3) := by decide +kernel
theorem dX12_number__82 : decode cX12_number_ 82 = .ok (.iload_n 2, 1) := by decide +kernel
theorem dX12_number__83 : decode cX12_number_ 83 = .ok (.iload_n 3, 1) := by decide +kernel
theorem dX12_number__84 : decode cX12_number_ 84 = .ok (.iload 4, 2) := by decide +kernel
theorem dX12_number__86 : decode cX12_number_ 86 = .ok (.invokestatic 144, 3) := by decide +kernel
theorem dX12_number__89 : decode cX12_number_ 89 = .ok (.if_icmp .ne 11, 3) := by decide +kernel
theorem dX12_number__92 : decode cX12_number_ 92 = .ok (.aload_n 0, 1) := by decide +kernel
theorem dX12_number__93 : decode cX12_number_ 93 = .ok (.iload_n 1, 1) := by decide +kernel
theorem dX12_number__94 : decode cX12_number_ 94 = .ok (.iload 5, 2) := by decide +kernel
theorem dX12_number__96 : decode cX12_number_ 96 = .ok (.invokevirtual 126, 3) := by decide +kernel
theorem dX12_number__99 : decode cX12_number_ 99 = .ok (.ireturn, 1) := by decide +kernel
theorem dX12_number__100 : decode cX12_number_ 100 = .ok (.iinc 5 1, 3) := by decide +kernel
theorem dX12_number__103 : decode cX12_number_ 103 = .ok (.goto (-39), 3) := by decide +kernel
theorem dX12_number__106 : decode cX12_number_ 106 = .ok (.iconst 0, 1) := by decide +kernel
theorem dX12_number__107 : decode cX12_number_ 107 = .ok (.ireturn, 1) := by decide +kernel
theorem dX12_value_0 : decode cX12_value 0 = .ok (.aload_n 0, 1) := by decide +kernel
theorem dX12_value_1 : decode cX12_value 1 = .ok (.iload_n 1, 1) := by decide +kernel
theorem dX12_value_2 : decode cX12_value 2 = .ok (.invokestatic 265, 3) := by decide +kernel
theorem dX12_value_5 : decode cX12_value 5 = .ok (.ifCond .ne 7, 3) := by decide +kernel
theorem dX12_value_8 : decode cX12_value 8 = .ok (.iconst 1, 1) := by decide +kernel
theorem dX12_value_9 : decode cX12_value 9 = .ok (.goto 19, 3) := by decide +kernel
theorem dX12_value_12 : decode cX12_value 12 = .ok (.aload_n 0, 1) := by decide +kernel
theorem dX12_value_13 : decode cX12_value 13 = .ok (.iload_n 2, 1) := by decide +kernel
theorem dX12_value_14 : decode cX12_value 14 = .ok (.iload_n 3, 1) := by decide +kernel
theorem dX12_value_15 : decode cX12_value 15 = .ok (.iload 4, 2) := by decide +kernel
theorem dX12_value_17 : decode cX12_value 17 = .ok (.invokevirtual 345, 3) := by decide +kernel
theorem dX12_value_20 : decode cX12_value 20 = .ok (.ifCond .ne 7, 3) := by decide +kernel
theorem dX12_value_23 : decode cX12_value 23 = .ok (.iconst 2, 1) := by decide +kernel
theorem dX12_value_24 : decode cX12_value 24 = .ok (.goto 4, 3) := by decide +kernel
theorem dX12_value_27 : decode cX12_value 27 = .ok (.iconst 0, 1) := by decide +kernel
theorem dX12_value_28 : decode cX12_value 28 = .ok (.putfield 116, 3) := by decide +kernel
theorem dX12_value_31 : decode cX12_value 31 = .ok (.aload_n 0, 1) := by decide +kernel
theorem dX12_value_32 : decode cX12_value 32 = .ok (.getfield 116, 3) := by decide +kernel
theorem dX12_value_35 : decode cX12_value 35 = .ok (.ifCond .le 7, 3) := by decide +kernel
theorem dX12_value_38 : decode cX12_value 38 = .ok (.iconst 0, 1) := by decide +kernel
theorem dX12_value_39 : decode cX12_value 39 = .ok (.goto 12, 3) := by decide +kernel
theorem dX12_value_42 : decode cX12_value 42 = .ok (.aload_n 0, 1) := by decide +kernel
theorem dX12_value_43 : decode cX12_value 43 = .ok (.iload_n 1, 1) := by decide +kernel
theorem dX12_value_44 : decode cX12_value 44 = .ok (.iload_n 2, 1) := by decide +kernel
theorem dX12_value_45 : decode cX12_value 45 = .ok (.iload_n 3, 1) := by decide +kernel
theorem dX12_value_46 : decode cX12_value 46 = .ok (.iload 4, 2) := by decide +kernel
theorem dX12_value_48 : decode cX12_value 48 = .ok (.invokevirtual 184, 3) := by decide +kernel
theorem dX12_value_51 : decode cX12_value 51 = .ok (.ireturn, 1) := by decide +kernel
theorem dX12_same_0 : decode cX12_same 0 = .ok (.aload_n 0, 1) := by decide +kernel
theorem dX12_same_1 : decode cX12_same 1 = .ok (.iload_n 1, 1) := by decide +kernel
theorem dX12_same_2 : decode cX12_same 2 = .ok (.invokestatic 265, 3) := by decide +kernel
theorem dX12_same_5 : decode cX12_same 5 = .ok (.ifCond .eq 10, 3) := by decide +kernel
theorem dX12_same_8 : decode cX12_same 8 = .ok (.iload_n 2, 1) := by decide +kernel
theorem dX12_same_9 : decode cX12_same 9 = .ok (.invokestatic 265, 3) := by decide +kernel
theorem dX12_same_12 : decode cX12_same 12 = .ok (.ifCond .ne 7, 3) := by decide +kernel
theorem dX12_same_15 : decode cX12_same 15 = .ok (.iconst 1, 1) := by decide +kernel
theorem dX12_same_16 : decode cX12_same 16 = .ok (.goto 4, 3) := by decide +kernel
theorem dX12_same_19 : decode cX12_same 19 = .ok (.iconst 0, 1) := by decide +kernel
theorem dX12_same_20 : decode cX12_same 20 = .ok (.putfield 116, 3) := by decide +kernel
theorem dX12_same_23 : decode cX12_same 23 = .ok (.aload_n 0, 1) := by decide +kernel
theorem dX12_same_24 : decode cX12_same 24 = .ok (.getfield 116, 3) := by decide +kernel
theorem dX12_same_27 : decode cX12_same 27 = .ok (.ifCond .le 5, 3) := by decide +kernel
theorem dX12_same_30 : decode cX12_same 30 = .ok (.iconst 0, 1) := by decide +kernel
theorem dX12_same_31 : decode cX12_same 31 = .ok (.ireturn, 1) := by decide +kernel
theorem dX12_same_32 : decode cX12_same 32 = .ok (.iload_n 3, 1) := by decide +kernel
theorem dX12_same_33 : decode cX12_same 33 = .ok (.ifCond .eq 21, 3) := by decide +kernel
theorem dX12_same_36 : decode cX12_same 36 = .ok (.aload_n 0, 1) := by decide +kernel
theorem dX12_same_37 : decode cX12_same 37 = .ok (.iload_n 1, 1) := by decide +kernel
theorem dX12_same_38 : decode cX12_same 38 = .ok (.iload_n 2, 1) := by decide +kernel
theorem dX12_same_39 : decode cX12_same 39 = .ok (.invokevirtual 348, 3) := by decide +kernel
theorem dX12_same_42 : decode cX12_same 42 = .ok (.iconst (-1), 1) := by decide +kernel
theorem dX12_same_43 : decode cX12_same 43 = .ok (.if_icmp .ne 7, 3) := by decide +kernel
theorem dX12_same_46 : decode cX12_same 46 = .ok (.iconst 1, 1) := by decide +kernel
theorem dX12_same_47 : decode cX12_same 47 = .ok (.goto 13, 3) := by decide +kernel
theorem dX12_same_50 : decode cX12_same 50 = .ok (.iconst 0, 1) := by decide +kernel
theorem dX12_same_51 : decode cX12_same 51 = .ok (.goto 9, 3) := by decide +kernel
theorem dX12_same_54 : decode cX12_same 54 = .ok (.aload_n 0, 1) := by decide +kernel
theorem dX12_same_55 : decode cX12_same 55 = .ok (.iload_n 1, 1) := by decide +kernel
theorem dX12_same_56 : decode cX12_same 56 = .ok (.iload_n 2, 1) := by decide +kernel
theorem dX12_same_57 : decode cX12_same 57 = .ok (.invokevirtual 351, 3) := by decide +kernel
theorem dX12_same_60 : decode cX12_same 60 = .ok (.ireturn, 1) := by decide +kernel
theorem dX12_witness_0 : decode cX12_witness 0 = .ok (.aload_n 0, 1) := by decide +kernel
theorem dX12_witness_1 : decode cX12_witness 1 = .ok (.iload_n 1, 1) := by decide +kernel
theorem dX12_witness_2 : decode cX12_witness 2 = .ok (.invokestatic 265, 3) := by decide +kernel
theorem dX12_witness_5 : decode cX12_witness 5 = .ok (.ifCond .eq 10, 3) := by decide +kernel
theorem dX12_witness_8 : decode cX12_witness 8 = .ok (.iload_n 2, 1) := by decide +kernel
theorem dX12_witness_9 : decode cX12_witness 9 = .ok (.invokestatic 265, 3) := by decide +kernel
theorem dX12_witness_12 : decode cX12_witness 12 = .ok (.ifCond .ne 7, 3) := by decide +kernel
theorem dX12_witness_15 : decode cX12_witness 15 = .ok (.iconst 1, 1) := by decide +kernel
theorem dX12_witness_16 : decode cX12_witness 16 = .ok (.goto 4, 3) := by decide +kernel
theorem dX12_witness_19 : decode cX12_witness 19 = .ok (.iconst 0, 1) := by decide +kernel
theorem dX12_witness_20 : decode cX12_witness 20 = .ok (.putfield 116, 3) := by decide +kernel
theorem dX12_witness_23 : decode cX12_witness 23 = .ok (.aload_n 0, 1) := by decide +kernel
theorem dX12_witness_24 : decode cX12_witness 24 = .ok (.getfield 116, 3) := by decide +kernel
theorem dX12_witness_27 : decode cX12_witness 27 = .ok (.ifCond .le 7, 3) := by decide +kernel
theorem dX12_witness_30 : decode cX12_witness 30 = .ok (.iconst 0, 1) := by decide +kernel
theorem dX12_witness_31 : decode cX12_witness 31 = .ok (.goto 9, 3) := by decide +kernel
theorem dX12_witness_34 : decode cX12_witness 34 = .ok (.aload_n 0, 1) := by decide +kernel
theorem dX12_witness_35 : decode cX12_witness 35 = .ok (.iload_n 1, 1) := by decide +kernel
theorem dX12_witness_36 : decode cX12_witness 36 = .ok (.iload_n 2, 1) := by decide +kernel
theorem dX12_witness_37 : decode cX12_witness 37 = .ok (.invokevirtual 348, 3) := by decide +kernel
theorem dX12_witness_40 : decode cX12_witness 40 = .ok (.ireturn, 1) := by decide +kernel
theorem dX12_writes_0 : decode cX12_writes 0 = .ok (.aload_n 0, 1) := by decide +kernel
theorem dX12_writes_1 : decode cX12_writes 1 = .ok (.getfield 74, 3) := by decide +kernel
theorem dX12_writes_4 : decode cX12_writes 4 = .ok (.aload_n 0, 1) := by decide +kernel
theorem dX12_writes_5 : decode cX12_writes 5 = .ok (.getfield 354, 3) := by decide +kernel
theorem dX12_writes_8 : decode cX12_writes 8 = .ok (.iload_n 1, 1) := by decide +kernel
theorem dX12_writes_9 : decode cX12_writes 9 = .ok (.iastore, 1) := by decide +kernel
theorem dX12_writes_10 : decode cX12_writes 10 = .ok (.aload_n 0, 1) := by decide +kernel
theorem dX12_writes_11 : decode cX12_writes 11 = .ok (.dup, 1) := by decide +kernel
theorem dX12_writes_12 : decode cX12_writes 12 = .ok (.getfield 354, 3) := by decide +kernel
theorem dX12_writes_15 : decode cX12_writes 15 = .ok (.iconst 1, 1) := by decide +kernel
theorem dX12_writes_16 : decode cX12_writes 16 = .ok (.iadd, 1) := by decide +kernel
theorem dX12_writes_17 : decode cX12_writes 17 = .ok (.putfield 354, 3) := by decide +kernel
theorem dX12_writes_20 : decode cX12_writes 20 = .ok (.return_, 1) := by decide +kernel
theorem dX12_writesNumber_0 : decode cX12_writesNumber 0 = .ok (.iload_n 1, 1) := by decide +kernel
theorem dX12_writesNumber_1 : decode cX12_writesNumber 1 = .ok (.bipush 9, 2) := by decide +kernel
theorem dX12_writesNumber_3 : decode cX12_writesNumber 3 = .ok (.if_icmp .le 11, 3) := by decide +kernel
theorem dX12_writesNumber_6 : decode cX12_writesNumber 6 = .ok (.aload_n 0, 1) := by decide +kernel
theorem dX12_writesNumber_7 : decode cX12_writesNumber 7 = .ok (.iload_n 1, 1) := by decide +kernel
theorem dX12_writesNumber_8 : decode cX12_writesNumber 8 = .ok (.bipush 10, 2) := by decide +kernel
theorem dX12_writesNumber_10 : decode cX12_writesNumber 10 = .ok (.idiv, 1) := by decide +kernel
theorem dX12_writesNumber_11 : decode cX12_writesNumber 11 = .ok (.invokevirtual 357, 3) := by decide +kernel
theorem dX12_writesNumber_14 : decode cX12_writesNumber 14 = .ok (.aload_n 0, 1) := by decide +kernel
theorem dX12_writesNumber_15 : decode cX12_writesNumber 15 = .ok (.bipush 48, 2) := by decide +kernel
theorem dX12_writesNumber_17 : decode cX12_writesNumber 17 = .ok (.iload_n 1, 1) := by decide +kernel
theorem dX12_writesNumber_18 : decode cX12_writesNumber 18 = .ok (.bipush 10, 2) := by decide +kernel
theorem dX12_writesNumber_20 : decode cX12_writesNumber 20 = .ok (.irem, 1) := by decide +kernel
theorem dX12_writesNumber_21 : decode cX12_writesNumber 21 = .ok (.iadd, 1) := by decide +kernel
theorem dX12_writesNumber_22 : decode cX12_writesNumber 22 = .ok (.invokevirtual 360, 3) := by decide +kernel
theorem dX12_writesNumber_25 : decode cX12_writesNumber 25 = .ok (.return_, 1) := by decide +kernel
theorem dX12_writesTerm_0 : decode cX12_writesTerm 0 = .ok (.iconst 1, 1) := by decide +kernel
theorem dX12_writesTerm_1 : decode cX12_writesTerm 1 = .ok (.istore_n 3, 1) := by decide +kernel
theorem dX12_writesTerm_2 : decode cX12_writesTerm 2 = .ok (.iload_n 2, 1) := by decide +kernel
theorem dX12_writesTerm_3 : decode cX12_writesTerm 3 = .ok (.iconst 1, 1) := by decide +kernel
theorem dX12_writesTerm_4 : decode cX12_writesTerm 4 = .ok (.if_icmp .ne 7, 3) := by decide +kernel
theorem dX12_writesTerm_7 : decode cX12_writesTerm 7 = .ok (.iload_n 1, 1) := by decide +kernel
theorem dX12_writesTerm_8 : decode cX12_writesTerm 8 = .ok (.ifCond .ne 10, 3) := by decide +kernel
theorem dX12_writesTerm_11 : decode cX12_writesTerm 11 = .ok (.aload_n 0, 1) := by decide +kernel
theorem dX12_writesTerm_12 : decode cX12_writesTerm 12 = .ok (.iload_n 2, 1) := by decide +kernel
theorem dX12_writesTerm_13 : decode cX12_writesTerm 13 = .ok (.invokevirtual 357, 3) := by decide +kernel
theorem dX12_writesTerm_16 : decode cX12_writesTerm 16 = .ok (.iconst 0, 1) := by decide +kernel
theorem dX12_writesTerm_17 : decode cX12_writesTerm 17 = .ok (.istore_n 3, 1) := by decide +kernel
theorem dX12_writesTerm_18 : decode cX12_writesTerm 18 = .ok (.iconst 0, 1) := by decide +kernel
theorem dX12_writesTerm_19 : decode cX12_writesTerm 19 = .ok (.istore 4, 2) := by decide +kernel
theorem dX12_writesTerm_21 : decode cX12_writesTerm 21 = .ok (.iload 4, 2) := by decide +kernel
theorem dX12_writesTerm_23 : decode cX12_writesTerm 23 = .ok (.iconst 3, 1) := by decide +kernel
theorem dX12_writesTerm_24 : decode cX12_writesTerm 24 = .ok (.if_icmp .ge 67, 3) := by decide +kernel
theorem dX12_writesTerm_27 : decode cX12_writesTerm 27 = .ok (.iload_n 1, 1) := by decide +kernel
theorem dX12_writesTerm_28 : decode cX12_writesTerm 28 = .ok (.iload 4, 2) := by decide +kernel
theorem dX12_writesTerm_30 : decode cX12_writesTerm 30 = .ok (.invokestatic 119, 3) := by decide +kernel
theorem dX12_writesTerm_33 : decode cX12_writesTerm 33 = .ok (.istore 5, 2) := by decide +kernel
theorem dX12_writesTerm_35 : decode cX12_writesTerm 35 = .ok (.iload 5, 2) := by decide +kernel
theorem dX12_writesTerm_37 : decode cX12_writesTerm 37 = .ok (.ifCond .ne 6, 3) := by decide +kernel
theorem dX12_writesTerm_40 : decode cX12_writesTerm 40 = .ok (.goto 45, 3) := by decide +kernel
theorem dX12_writesTerm_43 : decode cX12_writesTerm 43 = .ok (.iload_n 3, 1) := by decide +kernel
theorem dX12_writesTerm_44 : decode cX12_writesTerm 44 = .ok (.ifCond .ne 9, 3) := by decide +kernel
theorem dX12_writesTerm_47 : decode cX12_writesTerm 47 = .ok (.aload_n 0, 1) := by decide +kernel
theorem dX12_writesTerm_48 : decode cX12_writesTerm 48 = .ok (.bipush 42, 2) := by decide +kernel
theorem dX12_writesTerm_50 : decode cX12_writesTerm 50 = .ok (.invokevirtual 360, 3) := by decide +kernel
theorem dX12_writesTerm_53 : decode cX12_writesTerm 53 = .ok (.iconst 0, 1) := by decide +kernel
theorem dX12_writesTerm_54 : decode cX12_writesTerm 54 = .ok (.istore_n 3, 1) := by decide +kernel
theorem dX12_writesTerm_55 : decode cX12_writesTerm 55 = .ok (.aload_n 0, 1) := by decide +kernel
theorem dX12_writesTerm_56 : decode cX12_writesTerm 56 = .ok (.bipush 120, 2) := by decide +kernel
theorem dX12_writesTerm_58 : decode cX12_writesTerm 58 = .ok (.iload 4, 2) := by decide +kernel
theorem dX12_writesTerm_60 : decode cX12_writesTerm 60 = .ok (.iadd, 1) := by decide +kernel
theorem dX12_writesTerm_61 : decode cX12_writesTerm 61 = .ok (.invokevirtual 360, 3) := by decide +kernel
theorem dX12_writesTerm_64 : decode cX12_writesTerm 64 = .ok (.iload 5, 2) := by decide +kernel
theorem dX12_writesTerm_66 : decode cX12_writesTerm 66 = .ok (.iconst 1, 1) := by decide +kernel
theorem dX12_writesTerm_67 : decode cX12_writesTerm 67 = .ok (.if_icmp .ne 6, 3) := by decide +kernel
theorem dX12_writesTerm_70 : decode cX12_writesTerm 70 = .ok (.goto 15, 3) := by decide +kernel
theorem dX12_writesTerm_73 : decode cX12_writesTerm 73 = .ok (.aload_n 0, 1) := by decide +kernel
theorem dX12_writesTerm_74 : decode cX12_writesTerm 74 = .ok (.bipush 94, 2) := by decide +kernel
theorem dX12_writesTerm_76 : decode cX12_writesTerm 76 = .ok (.invokevirtual 360, 3) := by decide +kernel
theorem dX12_writesTerm_79 : decode cX12_writesTerm 79 = .ok (.aload_n 0, 1) := by decide +kernel
theorem dX12_writesTerm_80 : decode cX12_writesTerm 80 = .ok (.iload 5, 2) := by decide +kernel
theorem dX12_writesTerm_82 : decode cX12_writesTerm 82 = .ok (.invokevirtual 357, 3) := by decide +kernel
theorem dX12_writesTerm_85 : decode cX12_writesTerm 85 = .ok (.iinc 4 1, 3) := by decide +kernel
theorem dX12_writesTerm_88 : decode cX12_writesTerm 88 = .ok (.goto (-67), 3) := by decide +kernel
