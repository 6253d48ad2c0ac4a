theorem dX10_writeTerm_85 : decode cX10_writeTerm 85 = .ok (.invokevirtual 45, 3) := by decide +kernel
theorem dX10_writeTerm_88 : decode cX10_writeTerm 88 = .ok (.iinc 4 1, 3) := by decide +kernel
theorem dX10_writeTerm_91 : decode cX10_writeTerm 91 = .ok (.goto (-64), 3) := by decide +kernel
theorem dX10_writeTerm_94 : decode cX10_writeTerm 94 = .ok (.return_, 1) := by decide +kernel
theorem dX10_writeNumber_0 : decode cX10_writeNumber 0 = .ok (.iload_n 1, 1) := by decide +kernel
theorem dX10_writeNumber_1 : decode cX10_writeNumber 1 = .ok (.bipush 10, 2) := by decide +kernel
theorem dX10_writeNumber_3 : decode cX10_writeNumber 3 = .ok (.if_icmp .lt 14, 3) := by decide +kernel
theorem dX10_writeNumber_6 : decode cX10_writeNumber 6 = .ok (.aload_n 0, 1) := by decide +kernel
theorem dX10_writeNumber_7 : decode cX10_writeNumber 7 = .ok (.bipush 48, 2) := by decide +kernel
theorem dX10_writeNumber_9 : decode cX10_writeNumber 9 = .ok (.iload_n 1, 1) := by decide +kernel
theorem dX10_writeNumber_10 : decode cX10_writeNumber 10 = .ok (.bipush 10, 2) := by decide +kernel
theorem dX10_writeNumber_12 : decode cX10_writeNumber 12 = .ok (.idiv, 1) := by decide +kernel
theorem dX10_writeNumber_13 : decode cX10_writeNumber 13 = .ok (.iadd, 1) := by decide +kernel
theorem dX10_writeNumber_14 : decode cX10_writeNumber 14 = .ok (.invokevirtual 24, 3) := by decide +kernel
theorem dX10_writeNumber_17 : decode cX10_writeNumber 17 = .ok (.aload_n 0, 1) := by decide +kernel
theorem dX10_writeNumber_18 : decode cX10_writeNumber 18 = .ok (.bipush 48, 2) := by decide +kernel
theorem dX10_writeNumber_20 : decode cX10_writeNumber 20 = .ok (.iload_n 1, 1) := by decide +kernel
theorem dX10_writeNumber_21 : decode cX10_writeNumber 21 = .ok (.bipush 10, 2) := by decide +kernel
theorem dX10_writeNumber_23 : decode cX10_writeNumber 23 = .ok (.irem, 1) := by decide +kernel
theorem dX10_writeNumber_24 : decode cX10_writeNumber 24 = .ok (.iadd, 1) := by decide +kernel
theorem dX10_writeNumber_25 : decode cX10_writeNumber 25 = .ok (.invokevirtual 24, 3) := by decide +kernel
theorem dX10_writeNumber_28 : decode cX10_writeNumber 28 = .ok (.return_, 1) := by decide +kernel
theorem dX10_writeByte_0 : decode cX10_writeByte 0 = .ok (.aload_n 0, 1) := by decide +kernel
theorem dX10_writeByte_1 : decode cX10_writeByte 1 = .ok (.getfield 9, 3) := by decide +kernel
theorem dX10_writeByte_4 : decode cX10_writeByte 4 = .ok (.aload_n 0, 1) := by decide +kernel
theorem dX10_writeByte_5 : decode cX10_writeByte 5 = .ok (.getfield 15, 3) := by decide +kernel
theorem dX10_writeByte_8 : decode cX10_writeByte 8 = .ok (.arraylength, 1) := by decide +kernel
theorem dX10_writeByte_9 : decode cX10_writeByte 9 = .ok (.if_icmp .ge 24, 3) := by decide +kernel
theorem dX10_writeByte_12 : decode cX10_writeByte 12 = .ok (.aload_n 0, 1) := by decide +kernel
theorem dX10_writeByte_13 : decode cX10_writeByte 13 = .ok (.getfield 15, 3) := by decide +kernel
theorem dX10_writeByte_16 : decode cX10_writeByte 16 = .ok (.aload_n 0, 1) := by decide +kernel
theorem dX10_writeByte_17 : decode cX10_writeByte 17 = .ok (.getfield 9, 3) := by decide +kernel
theorem dX10_writeByte_20 : decode cX10_writeByte 20 = .ok (.iload_n 1, 1) := by decide +kernel
theorem dX10_writeByte_21 : decode cX10_writeByte 21 = .ok (.i2b, 1) := by decide +kernel
theorem dX10_writeByte_22 : decode cX10_writeByte 22 = .ok (.bastore, 1) := by decide +kernel
theorem dX10_writeByte_23 : decode cX10_writeByte 23 = .ok (.aload_n 0, 1) := by decide +kernel
theorem dX10_writeByte_24 : decode cX10_writeByte 24 = .ok (.dup, 1) := by decide +kernel
theorem dX10_writeByte_25 : decode cX10_writeByte 25 = .ok (.getfield 9, 3) := by decide +kernel
theorem dX10_writeByte_28 : decode cX10_writeByte 28 = .ok (.iconst 1, 1) := by decide +kernel
theorem dX10_writeByte_29 : decode cX10_writeByte 29 = .ok (.iadd, 1) := by decide +kernel
theorem dX10_writeByte_30 : decode cX10_writeByte 30 = .ok (.putfield 9, 3) := by decide +kernel
theorem dX10_writeByte_33 : decode cX10_writeByte 33 = .ok (.return_, 1) := by decide +kernel
