theorem dJ7_rangeCheck_23922_0 : decode cJ7_rangeCheck_23922 0 = .ok (.iload_n 1, 1) := by decide +kernel
theorem dJ7_rangeCheck_23922_1 : decode cJ7_rangeCheck_23922 1 = .ok (.iload_n 2, 1) := by decide +kernel
theorem dJ7_rangeCheck_23922_2 : decode cJ7_rangeCheck_23922 2 = .ok (.if_icmp .le 44, 3) := by decide +kernel
theorem dJ7_rangeCheck_23922_5 : decode cJ7_rangeCheck_23922 5 = .ok (.new 43, 3) := by decide +kernel
theorem dJ7_rangeCheck_23922_8 : decode cJ7_rangeCheck_23922 8 = .ok (.dup, 1) := by decide +kernel
theorem dJ7_rangeCheck_23922_9 : decode cJ7_rangeCheck_23922 9 = .ok (.new 45, 3) := by decide +kernel
theorem dJ7_rangeCheck_23922_12 : decode cJ7_rangeCheck_23922 12 = .ok (.dup, 1) := by decide +kernel
theorem dJ7_rangeCheck_23922_13 : decode cJ7_rangeCheck_23922 13 = .ok (.invokespecial 47, 3) := by decide +kernel
theorem dJ7_rangeCheck_23922_16 : decode cJ7_rangeCheck_23922 16 = .ok (.ldc 48, 2) := by decide +kernel
theorem dJ7_rangeCheck_23922_18 : decode cJ7_rangeCheck_23922 18 = .ok (.invokevirtual 50, 3) := by decide +kernel
theorem dJ7_rangeCheck_23922_21 : decode cJ7_rangeCheck_23922 21 = .ok (.iload_n 1, 1) := by decide +kernel
theorem dJ7_rangeCheck_23922_22 : decode cJ7_rangeCheck_23922 22 = .ok (.invokevirtual 54, 3) := by decide +kernel
theorem dJ7_rangeCheck_23922_25 : decode cJ7_rangeCheck_23922 25 = .ok (.ldc 57, 2) := by decide +kernel
theorem dJ7_rangeCheck_23922_27 : decode cJ7_rangeCheck_23922 27 = .ok (.invokevirtual 50, 3) := by decide +kernel
theorem dJ7_rangeCheck_23922_30 : decode cJ7_rangeCheck_23922 30 = .ok (.iload_n 2, 1) := by decide +kernel
theorem dJ7_rangeCheck_23922_31 : decode cJ7_rangeCheck_23922 31 = .ok (.invokevirtual 54, 3) := by decide +kernel
theorem dJ7_rangeCheck_23922_34 : decode cJ7_rangeCheck_23922 34 = .ok (.ldc 59, 2) := by decide +kernel
theorem dJ7_rangeCheck_23922_36 : decode cJ7_rangeCheck_23922 36 = .ok (.invokevirtual 50, 3) := by decide +kernel
theorem dJ7_rangeCheck_23922_39 : decode cJ7_rangeCheck_23922 39 = .ok (.invokevirtual 61, 3) := by decide +kernel
theorem dJ7_rangeCheck_23922_42 : decode cJ7_rangeCheck_23922 42 = .ok (.invokespecial 65, 3) := by decide +kernel
theorem dJ7_rangeCheck_23922_45 : decode cJ7_rangeCheck_23922 45 = .ok (.athrow, 1) := by decide +kernel
theorem dJ7_rangeCheck_23922_46 : decode cJ7_rangeCheck_23922 46 = .ok (.iload_n 1, 1) := by decide +kernel
theorem dJ7_rangeCheck_23922_47 : decode cJ7_rangeCheck_23922 47 = .ok (.ifCond .ge 12, 3) := by decide +kernel
theorem dJ7_rangeCheck_23922_50 : decode cJ7_rangeCheck_23922 50 = .ok (.new 68, 3) := by decide +kernel
theorem dJ7_rangeCheck_23922_53 : decode cJ7_rangeCheck_23922 53 = .ok (.dup, 1) := by decide +kernel
theorem dJ7_rangeCheck_23922_54 : decode cJ7_rangeCheck_23922 54 = .ok (.iload_n 1, 1) := by decide +kernel
theorem dJ7_rangeCheck_23922_55 : decode cJ7_rangeCheck_23922 55 = .ok (.invokespecial 70, 3) := by decide +kernel
theorem dJ7_rangeCheck_23922_58 : decode cJ7_rangeCheck_23922 58 = .ok (.athrow, 1) := by decide +kernel
theorem dJ7_rangeCheck_23922_59 : decode cJ7_rangeCheck_23922 59 = .ok (.iload_n 2, 1) := by decide +kernel
theorem dJ7_rangeCheck_23922_60 : decode cJ7_rangeCheck_23922 60 = .ok (.iload_n 0, 1) := by decide +kernel
theorem dJ7_rangeCheck_23922_61 : decode cJ7_rangeCheck_23922 61 = .ok (.if_icmp .le 12, 3) := by decide +kernel
theorem dJ7_rangeCheck_23922_64 : decode cJ7_rangeCheck_23922 64 = .ok (.new 68, 3) := by decide +kernel
theorem dJ7_rangeCheck_23922_67 : decode cJ7_rangeCheck_23922 67 = .ok (.dup, 1) := by decide +kernel
theorem dJ7_rangeCheck_23922_68 : decode cJ7_rangeCheck_23922 68 = .ok (.iload_n 2, 1) := by decide +kernel
theorem dJ7_rangeCheck_23922_69 : decode cJ7_rangeCheck_23922 69 = .ok (.invokespecial 70, 3) := by decide +kernel
theorem dJ7_rangeCheck_23922_72 : decode cJ7_rangeCheck_23922 72 = .ok (.athrow, 1) := by decide +kernel
theorem dJ7_rangeCheck_23922_73 : decode cJ7_rangeCheck_23922 73 = .ok (.return_, 1) := by decide +kernel
theorem dJ7_fill_53178_0 : decode cJ7_fill_53178 0 = .ok (.iconst 0, 1) := by decide +kernel
theorem dJ7_fill_53178_1 : decode cJ7_fill_53178 1 = .ok (.istore_n 2, 1) := by decide +kernel
theorem dJ7_fill_53178_2 : decode cJ7_fill_53178 2 = .ok (.aload_n 0, 1) := by decide +kernel
theorem dJ7_fill_53178_3 : decode cJ7_fill_53178 3 = .ok (.arraylength, 1) := by decide +kernel
theorem dJ7_fill_53178_4 : decode cJ7_fill_53178 4 = .ok (.istore_n 3, 1) := by decide +kernel
theorem dJ7_fill_53178_5 : decode cJ7_fill_53178 5 = .ok (.iload_n 2, 1) := by decide +kernel
theorem dJ7_fill_53178_6 : decode cJ7_fill_53178 6 = .ok (.iload_n 3, 1) := by decide +kernel
theorem dJ7_fill_53178_7 : decode cJ7_fill_53178 7 = .ok (.if_icmp .ge 13, 3) := by decide +kernel
theorem dJ7_fill_53178_10 : decode cJ7_fill_53178 10 = .ok (.aload_n 0, 1) := by decide +kernel
theorem dJ7_fill_53178_11 : decode cJ7_fill_53178 11 = .ok (.iload_n 2, 1) := by decide +kernel
theorem dJ7_fill_53178_12 : decode cJ7_fill_53178 12 = .ok (.iload_n 1, 1) := by decide +kernel
theorem dJ7_fill_53178_13 : decode cJ7_fill_53178 13 = .ok (.iastore, 1) := by decide +kernel
theorem dJ7_fill_53178_14 : decode cJ7_fill_53178 14 = .ok (.iinc 2 1, 3) := by decide +kernel
theorem dJ7_fill_53178_17 : decode cJ7_fill_53178 17 = .ok (.goto (-12), 3) := by decide +kernel
theorem dJ7_fill_53178_20 : decode cJ7_fill_53178 20 = .ok (.return_, 1) := by decide +kernel
theorem dJ7_fill_fda19_0 : decode cJ7_fill_fda19 0 = .ok (.aload_n 0, 1) := by decide +kernel
theorem dJ7_fill_fda19_1 : decode cJ7_fill_fda19 1 = .ok (.arraylength, 1) := by decide +kernel
theorem dJ7_fill_fda19_2 : decode cJ7_fill_fda19 2 = .ok (.iload_n 1, 1) := by decide +kernel
theorem dJ7_fill_fda19_3 : decode cJ7_fill_fda19 3 = .ok (.iload_n 2, 1) := by decide +kernel
theorem dJ7_fill_fda19_4 : decode cJ7_fill_fda19 4 = .ok (.invokestatic 13, 3) := by decide +kernel
theorem dJ7_fill_fda19_7 : decode cJ7_fill_fda19 7 = .ok (.iload_n 1, 1) := by decide +kernel
theorem dJ7_fill_fda19_8 : decode cJ7_fill_fda19 8 = .ok (.istore 4, 2) := by decide +kernel
theorem dJ7_fill_fda19_10 : decode cJ7_fill_fda19 10 = .ok (.iload 4, 2) := by decide +kernel
theorem dJ7_fill_fda19_12 : decode cJ7_fill_fda19 12 = .ok (.iload_n 2, 1) := by decide +kernel
theorem dJ7_fill_fda19_13 : decode cJ7_fill_fda19 13 = .ok (.if_icmp .ge 14, 3) := by decide +kernel
theorem dJ7_fill_fda19_16 : decode cJ7_fill_fda19 16 = .ok (.aload_n 0, 1) := by decide +kernel
theorem dJ7_fill_fda19_17 : decode cJ7_fill_fda19 17 = .ok (.iload 4, 2) := by decide +kernel
theorem dJ7_fill_fda19_19 : decode cJ7_fill_fda19 19 = .ok (.iload_n 3, 1) := by decide +kernel
theorem dJ7_fill_fda19_20 : decode cJ7_fill_fda19 20 = .ok (.iastore, 1) := by decide +kernel
theorem dJ7_fill_fda19_21 : decode cJ7_fill_fda19 21 = .ok (.iinc 4 1, 3) := by decide +kernel
theorem dJ7_fill_fda19_24 : decode cJ7_fill_fda19 24 = .ok (.goto (-14), 3) := by decide +kernel
theorem dJ7_fill_fda19_27 : decode cJ7_fill_fda19 27 = .ok (.return_, 1) := by decide +kernel
theorem dJ7_copyOf_9075b_0 : decode cJ7_copyOf_9075b 0 = .ok (.iload_n 1, 1) := by decide +kernel
theorem dJ7_copyOf_9075b_1 : decode cJ7_copyOf_9075b 1 = .ok (.aload_n 0, 1) := by decide +kernel
theorem dJ7_copyOf_9075b_2 : decode cJ7_copyOf_9075b 2 = .ok (.arraylength, 1) := by decide +kernel
theorem dJ7_copyOf_9075b_3 : decode cJ7_copyOf_9075b 3 = .ok (.if_icmp .ne 11, 3) := by decide +kernel
theorem dJ7_copyOf_9075b_6 : decode cJ7_copyOf_9075b 6 = .ok (.aload_n 0, 1) := by decide +kernel
theorem dJ7_copyOf_9075b_7 : decode cJ7_copyOf_9075b 7 = .ok (.invokevirtual 310, 3) := by decide +kernel
theorem dJ7_copyOf_9075b_10 : decode cJ7_copyOf_9075b 10 = .ok (.checkcast 311, 3) := by decide +kernel
theorem dJ7_copyOf_9075b_13 : decode cJ7_copyOf_9075b 13 = .ok (.areturn, 1) := by decide +kernel
theorem dJ7_copyOf_9075b_14 : decode cJ7_copyOf_9075b 14 = .ok (.iload_n 1, 1) := by decide +kernel
theorem dJ7_copyOf_9075b_15 : decode cJ7_copyOf_9075b 15 = .ok (.newarray .byte, 2) := by decide +kernel
theorem dJ7_copyOf_9075b_17 : decode cJ7_copyOf_9075b 17 = .ok (.astore_n 2, 1) := by decide +kernel
theorem dJ7_copyOf_9075b_18 : decode cJ7_copyOf_9075b 18 = .ok (.aload_n 0, 1) := by decide +kernel
theorem dJ7_copyOf_9075b_19 : decode cJ7_copyOf_9075b 19 = .ok (.iconst 0, 1) := by decide +kernel
theorem dJ7_copyOf_9075b_20 : decode cJ7_copyOf_9075b 20 = .ok (.aload_n 2, 1) := by decide +kernel
theorem dJ7_copyOf_9075b_21 : decode cJ7_copyOf_9075b 21 = .ok (.iconst 0, 1) := by decide +kernel
theorem dJ7_copyOf_9075b_22 : decode cJ7_copyOf_9075b 22 = .ok (.aload_n 0, 1) := by decide +kernel
theorem dJ7_copyOf_9075b_23 : decode cJ7_copyOf_9075b 23 = .ok (.arraylength, 1) := by decide +kernel
theorem dJ7_copyOf_9075b_24 : decode cJ7_copyOf_9075b 24 = .ok (.iload_n 1, 1) := by decide +kernel
theorem dJ7_copyOf_9075b_25 : decode cJ7_copyOf_9075b 25 = .ok (.invokestatic 304, 3) := by decide +kernel
theorem dJ7_copyOf_9075b_28 : decode cJ7_copyOf_9075b 28 = .ok (.invokestatic 150, 3) := by decide +kernel
theorem dJ7_copyOf_9075b_31 : decode cJ7_copyOf_9075b 31 = .ok (.aload_n 2, 1) := by decide +kernel
theorem dJ7_copyOf_9075b_32 : decode cJ7_copyOf_9075b 32 = .ok (.areturn, 1) := by decide +kernel
theorem dJ7_checkLength_df160_0 : decode cJ7_checkLength_df160 0 = .ok (.iload_n 1, 1) := by decide +kernel
theorem dJ7_checkLength_df160_1 : decode cJ7_checkLength_df160 1 = .ok (.iload_n 0, 1) := by decide +kernel
theorem dJ7_checkLength_df160_2 : decode cJ7_checkLength_df160 2 = .ok (.if_icmp .ge 35, 3) := by decide +kernel
theorem dJ7_checkLength_df160_5 : decode cJ7_checkLength_df160 5 = .ok (.new 43, 3) := by decide +kernel
theorem dJ7_checkLength_df160_8 : decode cJ7_checkLength_df160 8 = .ok (.dup, 1) := by decide +kernel
theorem dJ7_checkLength_df160_9 : decode cJ7_checkLength_df160 9 = .ok (.new 45, 3) := by decide +kernel
theorem dJ7_checkLength_df160_12 : decode cJ7_checkLength_df160 12 = .ok (.dup, 1) := by decide +kernel
theorem dJ7_checkLength_df160_13 : decode cJ7_checkLength_df160 13 = .ok (.invokespecial 47, 3) := by decide +kernel
theorem dJ7_checkLength_df160_16 : decode cJ7_checkLength_df160 16 = .ok (.iload_n 0, 1) := by decide +kernel
theorem dJ7_checkLength_df160_17 : decode cJ7_checkLength_df160 17 = .ok (.invokevirtual 54, 3) := by decide +kernel
theorem dJ7_checkLength_df160_20 : decode cJ7_checkLength_df160 20 = .ok (.ldc_w 337, 3) := by decide +kernel
theorem dJ7_checkLength_df160_23 : decode cJ7_checkLength_df160 23 = .ok (.invokevirtual 50, 3) := by decide +kernel
theorem dJ7_checkLength_df160_26 : decode cJ7_checkLength_df160 26 = .ok (.iload_n 1, 1) := by decide +kernel
theorem dJ7_checkLength_df160_27 : decode cJ7_checkLength_df160 27 = .ok (.invokevirtual 54, 3) := by decide +kernel
theorem dJ7_checkLength_df160_30 : decode cJ7_checkLength_df160 30 = .ok (.invokevirtual 61, 3) := by decide +kernel
theorem dJ7_checkLength_df160_33 : decode cJ7_checkLength_df160 33 = .ok (.invokespecial 65, 3) := by decide +kernel
theorem dJ7_checkLength_df160_36 : decode cJ7_checkLength_df160 36 = .ok (.athrow, 1) := by decide +kernel
theorem dJ7_checkLength_df160_37 : decode cJ7_checkLength_df160 37 = .ok (.return_, 1) := by decide +kernel
theorem dJ7_copyOfRange_39247_0 : decode cJ7_copyOfRange_39247 0 = .ok (.iload_n 1, 1) := by decide +kernel
theorem dJ7_copyOfRange_39247_1 : decode cJ7_copyOfRange_39247 1 = .ok (.ifCond .ne 9, 3) := by decide +kernel
theorem dJ7_copyOfRange_39247_4 : decode cJ7_copyOfRange_39247 4 = .ok (.iload_n 2, 1) := by decide +kernel
theorem dJ7_copyOfRange_39247_5 : decode cJ7_copyOfRange_39247 5 = .ok (.aload_n 0, 1) := by decide +kernel
theorem dJ7_copyOfRange_39247_6 : decode cJ7_copyOfRange_39247 6 = .ok (.arraylength, 1) := by decide +kernel
theorem dJ7_copyOfRange_39247_7 : decode cJ7_copyOfRange_39247 7 = .ok (.if_icmp .eq 10, 3) := by decide +kernel
theorem dJ7_copyOfRange_39247_10 : decode cJ7_copyOfRange_39247 10 = .ok (.aload_n 0, 1) := by decide +kernel
theorem dJ7_copyOfRange_39247_11 : decode cJ7_copyOfRange_39247 11 = .ok (.iload_n 1, 1) := by decide +kernel
theorem dJ7_copyOfRange_39247_12 : decode cJ7_copyOfRange_39247 12 = .ok (.iload_n 2, 1) := by decide +kernel
theorem dJ7_copyOfRange_39247_13 : decode cJ7_copyOfRange_39247 13 = .ok (.invokestatic 339, 3) := by decide +kernel
theorem dJ7_copyOfRange_39247_16 : decode cJ7_copyOfRange_39247 16 = .ok (.areturn, 1) := by decide +kernel
theorem dJ7_copyOfRange_39247_17 : decode cJ7_copyOfRange_39247 17 = .ok (.aload_n 0, 1) := by decide +kernel
theorem dJ7_copyOfRange_39247_18 : decode cJ7_copyOfRange_39247 18 = .ok (.invokevirtual 310, 3) := by decide +kernel
theorem dJ7_copyOfRange_39247_21 : decode cJ7_copyOfRange_39247 21 = .ok (.checkcast 311, 3) := by decide +kernel
theorem dJ7_copyOfRange_39247_24 : decode cJ7_copyOfRange_39247 24 = .ok (.areturn, 1) := by decide +kernel
theorem dJ7_copyOfRangeByte_39247_0 : decode cJ7_copyOfRangeByte_39247 0 = .ok (.iload_n 1, 1) := by decide +kernel
theorem dJ7_copyOfRangeByte_39247_1 : decode cJ7_copyOfRangeByte_39247 1 = .ok (.iload_n 2, 1) := by decide +kernel
theorem dJ7_copyOfRangeByte_39247_2 : decode cJ7_copyOfRangeByte_39247 2 = .ok (.invokestatic 343, 3) := by decide +kernel
theorem dJ7_copyOfRangeByte_39247_5 : decode cJ7_copyOfRangeByte_39247 5 = .ok (.iload_n 2, 1) := by decide +kernel
theorem dJ7_copyOfRangeByte_39247_6 : decode cJ7_copyOfRangeByte_39247 6 = .ok (.iload_n 1, 1) := by decide +kernel
theorem dJ7_copyOfRangeByte_39247_7 : decode cJ7_copyOfRangeByte_39247 7 = .ok (.isub, 1) := by decide +kernel
theorem dJ7_copyOfRangeByte_39247_8 : decode cJ7_copyOfRangeByte_39247 8 = .ok (.istore_n 3, 1) := by decide +kernel
theorem dJ7_copyOfRangeByte_39247_9 : decode cJ7_copyOfRangeByte_39247 9 = .ok (.iload_n 3, 1) := by decide +kernel
theorem dJ7_copyOfRangeByte_39247_10 : decode cJ7_copyOfRangeByte_39247 10 = .ok (.newarray .byte, 2) := by decide +kernel
theorem dJ7_copyOfRangeByte_39247_12 : decode cJ7_copyOfRangeByte_39247 12 = .ok (.astore 4, 2) := by decide +kernel
theorem dJ7_copyOfRangeByte_39247_14 : decode cJ7_copyOfRangeByte_39247 14 = .ok (.aload_n 0, 1) := by decide +kernel
theorem dJ7_copyOfRangeByte_39247_15 : decode cJ7_copyOfRangeByte_39247 15 = .ok (.iload_n 1, 1) := by decide +kernel
theorem dJ7_copyOfRangeByte_39247_16 : decode cJ7_copyOfRangeByte_39247 16 = .ok (.aload 4, 2) := by decide +kernel
theorem dJ7_copyOfRangeByte_39247_18 : decode cJ7_copyOfRangeByte_39247 18 = .ok (.iconst 0, 1) := by decide +kernel
theorem dJ7_copyOfRangeByte_39247_19 : decode cJ7_copyOfRangeByte_39247 19 = .ok (.aload_n 0, 1) := by decide +kernel
theorem dJ7_copyOfRangeByte_39247_20 : decode cJ7_copyOfRangeByte_39247 20 = .ok (.arraylength, 1) := by decide +kernel
theorem dJ7_copyOfRangeByte_39247_21 : decode cJ7_copyOfRangeByte_39247 21 = .ok (.iload_n 1, 1) := by decide +kernel
theorem dJ7_copyOfRangeByte_39247_22 : decode cJ7_copyOfRangeByte_39247 22 = .ok (.isub, 1) := by decide +kernel
theorem dJ7_copyOfRangeByte_39247_23 : decode cJ7_copyOfRangeByte_39247 23 = .ok (.iload_n 3, 1) := by decide +kernel
theorem dJ7_copyOfRangeByte_39247_24 : decode cJ7_copyOfRangeByte_39247 24 = .ok (.invokestatic 304, 3) := by decide +kernel
theorem dJ7_copyOfRangeByte_39247_27 : decode cJ7_copyOfRangeByte_39247 27 = .ok (.invokestatic 150, 3) := by decide +kernel
theorem dJ7_copyOfRangeByte_39247_30 : decode cJ7_copyOfRangeByte_39247 30 = .ok (.aload 4, 2) := by decide +kernel
theorem dJ7_copyOfRangeByte_39247_32 : decode cJ7_copyOfRangeByte_39247 32 = .ok (.areturn, 1) := by decide +kernel
