theorem dX0_init_0 : decode cX0_init 0 = .ok (.aload_n 0, 1) := by decide +kernel
theorem dX0_init_1 : decode cX0_init 1 = .ok (.invokespecial 1, 3) := by decide +kernel
theorem dX0_init_4 : decode cX0_init 4 = .ok (.aload_n 0, 1) := by decide +kernel
theorem dX0_init_5 : decode cX0_init 5 = .ok (.iconst 0, 1) := by decide +kernel
theorem dX0_init_6 : decode cX0_init 6 = .ok (.putfield 7, 3) := by decide +kernel
theorem dX0_init_9 : decode cX0_init 9 = .ok (.aload_n 0, 1) := by decide +kernel
theorem dX0_init_10 : decode cX0_init 10 = .ok (.iconst 0, 1) := by decide +kernel
theorem dX0_init_11 : decode cX0_init 11 = .ok (.putfield 13, 3) := by decide +kernel
theorem dX0_init_14 : decode cX0_init 14 = .ok (.aload_n 0, 1) := by decide +kernel
theorem dX0_init_15 : decode cX0_init 15 = .ok (.bipush 20, 2) := by decide +kernel
theorem dX0_init_17 : decode cX0_init 17 = .ok (.newarray .int, 2) := by decide +kernel
theorem dX0_init_19 : decode cX0_init 19 = .ok (.putfield 16, 3) := by decide +kernel
theorem dX0_init_22 : decode cX0_init 22 = .ok (.aload_n 0, 1) := by decide +kernel
theorem dX0_init_23 : decode cX0_init 23 = .ok (.bipush 20, 2) := by decide +kernel
theorem dX0_init_25 : decode cX0_init 25 = .ok (.anewarray 20, 3) := by decide +kernel
theorem dX0_init_28 : decode cX0_init 28 = .ok (.putfield 22, 3) := by decide +kernel
theorem dX0_init_31 : decode cX0_init 31 = .ok (.return_, 1) := by decide +kernel
theorem dX0_forget_0 : decode cX0_forget 0 = .ok (.aload_n 0, 1) := by decide +kernel
theorem dX0_forget_1 : decode cX0_forget 1 = .ok (.iconst 0, 1) := by decide +kernel
theorem dX0_forget_2 : decode cX0_forget 2 = .ok (.putfield 7, 3) := by decide +kernel
theorem dX0_forget_5 : decode cX0_forget 5 = .ok (.return_, 1) := by decide +kernel
theorem dX0_note_0 : decode cX0_note 0 = .ok (.aload_n 0, 1) := by decide +kernel
theorem dX0_note_1 : decode cX0_note 1 = .ok (.getfield 16, 3) := by decide +kernel
theorem dX0_note_4 : decode cX0_note 4 = .ok (.aload_n 0, 1) := by decide +kernel
theorem dX0_note_5 : decode cX0_note 5 = .ok (.getfield 13, 3) := by decide +kernel
theorem dX0_note_8 : decode cX0_note 8 = .ok (.iload_n 1, 1) := by decide +kernel
theorem dX0_note_9 : decode cX0_note 9 = .ok (.iastore, 1) := by decide +kernel
theorem dX0_note_10 : decode cX0_note 10 = .ok (.aload_n 0, 1) := by decide +kernel
theorem dX0_note_11 : decode cX0_note 11 = .ok (.getfield 22, 3) := by decide +kernel
theorem dX0_note_14 : decode cX0_note 14 = .ok (.aload_n 0, 1) := by decide +kernel
theorem dX0_note_15 : decode cX0_note 15 = .ok (.getfield 13, 3) := by decide +kernel
theorem dX0_note_18 : decode cX0_note 18 = .ok (.aload_n 2, 1) := by decide +kernel
theorem dX0_note_19 : decode cX0_note 19 = .ok (.aastore, 1) := by decide +kernel
theorem dX0_note_20 : decode cX0_note 20 = .ok (.aload_n 0, 1) := by decide +kernel
theorem dX0_note_21 : decode cX0_note 21 = .ok (.aload_n 0, 1) := by decide +kernel
theorem dX0_note_22 : decode cX0_note 22 = .ok (.getfield 13, 3) := by decide +kernel
theorem dX0_note_25 : decode cX0_note 25 = .ok (.bipush 19, 2) := by decide +kernel
theorem dX0_note_27 : decode cX0_note 27 = .ok (.if_icmp .ne 7, 3) := by decide +kernel
theorem dX0_note_30 : decode cX0_note 30 = .ok (.iconst 0, 1) := by decide +kernel
theorem dX0_note_31 : decode cX0_note 31 = .ok (.goto 9, 3) := by decide +kernel
theorem dX0_note_34 : decode cX0_note 34 = .ok (.aload_n 0, 1) := by decide +kernel
theorem dX0_note_35 : decode cX0_note 35 = .ok (.getfield 13, 3) := by decide +kernel
theorem dX0_note_38 : decode cX0_note 38 = .ok (.iconst 1, 1) := by decide +kernel
theorem dX0_note_39 : decode cX0_note 39 = .ok (.iadd, 1) := by decide +kernel
theorem dX0_note_40 : decode cX0_note 40 = .ok (.putfield 13, 3) := by decide +kernel
theorem dX0_note_43 : decode cX0_note 43 = .ok (.aload_n 0, 1) := by decide +kernel
theorem dX0_note_44 : decode cX0_note 44 = .ok (.aload_n 0, 1) := by decide +kernel
theorem dX0_note_45 : decode cX0_note 45 = .ok (.getfield 7, 3) := by decide +kernel
theorem dX0_note_48 : decode cX0_note 48 = .ok (.iconst 1, 1) := by decide +kernel
theorem dX0_note_49 : decode cX0_note 49 = .ok (.iadd, 1) := by decide +kernel
theorem dX0_note_50 : decode cX0_note 50 = .ok (.bipush 20, 2) := by decide +kernel
theorem dX0_note_52 : decode cX0_note 52 = .ok (.invokestatic 26, 3) := by decide +kernel
theorem dX0_note_55 : decode cX0_note 55 = .ok (.putfield 7, 3) := by decide +kernel
theorem dX0_note_58 : decode cX0_note 58 = .ok (.return_, 1) := by decide +kernel
theorem dX0_takeBack_0 : decode cX0_takeBack 0 = .ok (.aload_n 0, 1) := by decide +kernel
theorem dX0_takeBack_1 : decode cX0_takeBack 1 = .ok (.aload_n 0, 1) := by decide +kernel
theorem dX0_takeBack_2 : decode cX0_takeBack 2 = .ok (.getfield 13, 3) := by decide +kernel
theorem dX0_takeBack_5 : decode cX0_takeBack 5 = .ok (.ifCond .ne 8, 3) := by decide +kernel
theorem dX0_takeBack_8 : decode cX0_takeBack 8 = .ok (.bipush 19, 2) := by decide +kernel
theorem dX0_takeBack_10 : decode cX0_takeBack 10 = .ok (.goto 9, 3) := by decide +kernel
theorem dX0_takeBack_13 : decode cX0_takeBack 13 = .ok (.aload_n 0, 1) := by decide +kernel
theorem dX0_takeBack_14 : decode cX0_takeBack 14 = .ok (.getfield 13, 3) := by decide +kernel
theorem dX0_takeBack_17 : decode cX0_takeBack 17 = .ok (.iconst 1, 1) := by decide +kernel
theorem dX0_takeBack_18 : decode cX0_takeBack 18 = .ok (.isub, 1) := by decide +kernel
theorem dX0_takeBack_19 : decode cX0_takeBack 19 = .ok (.putfield 13, 3) := by decide +kernel
theorem dX0_takeBack_22 : decode cX0_takeBack 22 = .ok (.aload_n 0, 1) := by decide +kernel
theorem dX0_takeBack_23 : decode cX0_takeBack 23 = .ok (.dup, 1) := by decide +kernel
theorem dX0_takeBack_24 : decode cX0_takeBack 24 = .ok (.getfield 7, 3) := by decide +kernel
theorem dX0_takeBack_27 : decode cX0_takeBack 27 = .ok (.iconst 1, 1) := by decide +kernel
theorem dX0_takeBack_28 : decode cX0_takeBack 28 = .ok (.isub, 1) := by decide +kernel
theorem dX0_takeBack_29 : decode cX0_takeBack 29 = .ok (.putfield 7, 3) := by decide +kernel
theorem dX0_takeBack_32 : decode cX0_takeBack 32 = .ok (.aload_n 1, 1) := by decide +kernel
theorem dX0_takeBack_33 : decode cX0_takeBack 33 = .ok (.aload_n 0, 1) := by decide +kernel
theorem dX0_takeBack_34 : decode cX0_takeBack 34 = .ok (.getfield 16, 3) := by decide +kernel
theorem dX0_takeBack_37 : decode cX0_takeBack 37 = .ok (.aload_n 0, 1) := by decide +kernel
theorem dX0_takeBack_38 : decode cX0_takeBack 38 = .ok (.getfield 13, 3) := by decide +kernel
theorem dX0_takeBack_41 : decode cX0_takeBack 41 = .ok (.iaload, 1) := by decide +kernel
theorem dX0_takeBack_42 : decode cX0_takeBack 42 = .ok (.aload_n 0, 1) := by decide +kernel
theorem dX0_takeBack_43 : decode cX0_takeBack 43 = .ok (.getfield 22, 3) := by decide +kernel
theorem dX0_takeBack_46 : decode cX0_takeBack 46 = .ok (.aload_n 0, 1) := by decide +kernel
theorem dX0_takeBack_47 : decode cX0_takeBack 47 = .ok (.getfield 13, 3) := by decide +kernel
theorem dX0_takeBack_50 : decode cX0_takeBack 50 = .ok (.aaload, 1) := by decide +kernel
theorem dX0_takeBack_51 : decode cX0_takeBack 51 = .ok (.aastore, 1) := by decide +kernel
theorem dX0_takeBack_52 : decode cX0_takeBack 52 = .ok (.return_, 1) := by decide +kernel
theorem dX1_init_0 : decode cX1_init 0 = .ok (.aload_n 0, 1) := by decide +kernel
theorem dX1_init_1 : decode cX1_init 1 = .ok (.invokespecial 3, 3) := by decide +kernel
theorem dX1_init_4 : decode cX1_init 4 = .ok (.aload_n 0, 1) := by decide +kernel
theorem dX1_init_5 : decode cX1_init 5 = .ok (.iconst 0, 1) := by decide +kernel
theorem dX1_init_6 : decode cX1_init 6 = .ok (.newarray .int, 2) := by decide +kernel
theorem dX1_init_8 : decode cX1_init 8 = .ok (.putfield 9, 3) := by decide +kernel
theorem dX1_init_11 : decode cX1_init 11 = .ok (.aload_n 0, 1) := by decide +kernel
theorem dX1_init_12 : decode cX1_init 12 = .ok (.iconst 0, 1) := by decide +kernel
theorem dX1_init_13 : decode cX1_init 13 = .ok (.putfield 15, 3) := by decide +kernel
theorem dX1_init_16 : decode cX1_init 16 = .ok (.aload_n 0, 1) := by decide +kernel
theorem dX1_init_17 : decode cX1_init 17 = .ok (.iconst 3, 1) := by decide +kernel
theorem dX1_init_18 : decode cX1_init 18 = .ok (.newarray .int, 2) := by decide +kernel
theorem dX1_init_20 : decode cX1_init 20 = .ok (.dup, 1) := by decide +kernel
theorem dX1_init_21 : decode cX1_init 21 = .ok (.iconst 0, 1) := by decide +kernel
theorem dX1_init_22 : decode cX1_init 22 = .ok (.iconst 1, 1) := by decide +kernel
theorem dX1_init_23 : decode cX1_init 23 = .ok (.iastore, 1) := by decide +kernel
theorem dX1_init_24 : decode cX1_init 24 = .ok (.dup, 1) := by decide +kernel
theorem dX1_init_25 : decode cX1_init 25 = .ok (.iconst 1, 1) := by decide +kernel
theorem dX1_init_26 : decode cX1_init 26 = .ok (.iconst 1, 1) := by decide +kernel
theorem dX1_init_27 : decode cX1_init 27 = .ok (.iastore, 1) := by decide +kernel
theorem dX1_init_28 : decode cX1_init 28 = .ok (.dup, 1) := by decide +kernel
theorem dX1_init_29 : decode cX1_init 29 = .ok (.iconst 2, 1) := by decide +kernel
theorem dX1_init_30 : decode cX1_init 30 = .ok (.iconst 1, 1) := by decide +kernel
theorem dX1_init_31 : decode cX1_init 31 = .ok (.iastore, 1) := by decide +kernel
theorem dX1_init_32 : decode cX1_init 32 = .ok (.putfield 19, 3) := by decide +kernel
theorem dX1_init_35 : decode cX1_init 35 = .ok (.return_, 1) := by decide +kernel
theorem dX1_open_0 : decode cX1_open 0 = .ok (.aload_n 0, 1) := by decide +kernel
theorem dX1_open_1 : decode cX1_open 1 = .ok (.getfield 19, 3) := by decide +kernel
theorem dX1_open_4 : decode cX1_open 4 = .ok (.iconst 1, 1) := by decide +kernel
theorem dX1_open_5 : decode cX1_open 5 = .ok (.iload_n 3, 1) := by decide +kernel
theorem dX1_open_6 : decode cX1_open 6 = .ok (.iconst 1, 1) := by decide +kernel
theorem dX1_open_7 : decode cX1_open 7 = .ok (.iadd, 1) := by decide +kernel
theorem dX1_open_8 : decode cX1_open 8 = .ok (.iastore, 1) := by decide +kernel
theorem dX1_open_9 : decode cX1_open 9 = .ok (.aload_n 0, 1) := by decide +kernel
theorem dX1_open_10 : decode cX1_open 10 = .ok (.getfield 19, 3) := by decide +kernel
theorem dX1_open_13 : decode cX1_open 13 = .ok (.iconst 0, 1) := by decide +kernel
theorem dX1_open_14 : decode cX1_open 14 = .ok (.iload_n 2, 1) := by decide +kernel
theorem dX1_open_15 : decode cX1_open 15 = .ok (.iconst 1, 1) := by decide +kernel
theorem dX1_open_16 : decode cX1_open 16 = .ok (.iadd, 1) := by decide +kernel
theorem dX1_open_17 : decode cX1_open 17 = .ok (.aload_n 0, 1) := by decide +kernel
theorem dX1_open_18 : decode cX1_open 18 = .ok (.getfield 19, 3) := by decide +kernel
theorem dX1_open_21 : decode cX1_open 21 = .ok (.iconst 1, 1) := by decide +kernel
theorem dX1_open_22 : decode cX1_open 22 = .ok (.iaload, 1) := by decide +kernel
theorem dX1_open_23 : decode cX1_open 23 = .ok (.imul, 1) := by decide +kernel
theorem dX1_open_24 : decode cX1_open 24 = .ok (.iastore, 1) := by decide +kernel
theorem dX1_open_25 : decode cX1_open 25 = .ok (.aload_n 0, 1) := by decide +kernel
theorem dX1_open_26 : decode cX1_open 26 = .ok (.iload_n 1, 1) := by decide +kernel
theorem dX1_open_27 : decode cX1_open 27 = .ok (.iconst 1, 1) := by decide +kernel
theorem dX1_open_28 : decode cX1_open 28 = .ok (.iadd, 1) := by decide +kernel
theorem dX1_open_29 : decode cX1_open 29 = .ok (.aload_n 0, 1) := by decide +kernel
theorem dX1_open_30 : decode cX1_open 30 = .ok (.getfield 19, 3) := by decide +kernel
theorem dX1_open_33 : decode cX1_open 33 = .ok (.iconst 0, 1) := by decide +kernel
theorem dX1_open_34 : decode cX1_open 34 = .ok (.iaload, 1) := by decide +kernel
theorem dX1_open_35 : decode cX1_open 35 = .ok (.imul, 1) := by decide +kernel
theorem dX1_open_36 : decode cX1_open 36 = .ok (.putfield 15, 3) := by decide +kernel
theorem dX1_open_39 : decode cX1_open 39 = .ok (.aload_n 0, 1) := by decide +kernel
theorem dX1_open_40 : decode cX1_open 40 = .ok (.getfield 15, 3) := by decide +kernel
theorem dX1_open_43 : decode cX1_open 43 = .ok (.aload_n 0, 1) := by decide +kernel
theorem dX1_open_44 : decode cX1_open 44 = .ok (.getfield 9, 3) := by decide +kernel
theorem dX1_open_47 : decode cX1_open 47 = .ok (.arraylength, 1) := by decide +kernel
theorem dX1_open_48 : decode cX1_open 48 = .ok (.if_icmp .le 31, 3) := by decide +kernel
theorem dX1_open_51 : decode cX1_open 51 = .ok (.aload_n 0, 1) := by decide +kernel
theorem dX1_open_52 : decode cX1_open 52 = .ok (.aload_n 0, 1) := by decide +kernel
theorem dX1_open_53 : decode cX1_open 53 = .ok (.getfield 15, 3) := by decide +kernel
theorem dX1_open_56 : decode cX1_open 56 = .ok (.iconst 2, 1) := by decide +kernel
theorem dX1_open_57 : decode cX1_open 57 = .ok (.aload_n 0, 1) := by decide +kernel
theorem dX1_open_58 : decode cX1_open 58 = .ok (.getfield 9, 3) := by decide +kernel
theorem dX1_open_61 : decode cX1_open 61 = .ok (.arraylength, 1) := by decide +kernel
theorem dX1_open_62 : decode cX1_open 62 = .ok (.imul, 1) := by decide +kernel
theorem dX1_open_63 : decode cX1_open 63 = .ok (.ldc 22, 2) := by decide +kernel
theorem dX1_open_65 : decode cX1_open 65 = .ok (.invokestatic 23, 3) := by decide +kernel
theorem dX1_open_68 : decode cX1_open 68 = .ok (.invokestatic 29, 3) := by decide +kernel
theorem dX1_open_71 : decode cX1_open 71 = .ok (.newarray .int, 2) := by decide +kernel
theorem dX1_open_73 : decode cX1_open 73 = .ok (.putfield 9, 3) := by decide +kernel
theorem dX1_open_76 : decode cX1_open 76 = .ok (.goto 16, 3) := by decide +kernel
theorem dX1_open_79 : decode cX1_open 79 = .ok (.aload_n 0, 1) := by decide +kernel
theorem dX1_open_80 : decode cX1_open 80 = .ok (.getfield 9, 3) := by decide +kernel
theorem dX1_open_83 : decode cX1_open 83 = .ok (.iconst 0, 1) := by decide +kernel
theorem dX1_open_84 : decode cX1_open 84 = .ok (.aload_n 0, 1) := by decide +kernel
theorem dX1_open_85 : decode cX1_open 85 = .ok (.getfield 15, 3) := by decide +kernel
theorem dX1_open_88 : decode cX1_open 88 = .ok (.iconst 0, 1) := by decide +kernel
theorem dX1_open_89 : decode cX1_open 89 = .ok (.invokestatic 32, 3) := by decide +kernel
theorem dX1_open_92 : decode cX1_open 92 = .ok (.return_, 1) := by decide +kernel
theorem dX1_narrow_0 : decode cX1_narrow 0 = .ok (.aload_n 0, 1) := by decide +kernel
theorem dX1_narrow_1 : decode cX1_narrow 1 = .ok (.aload_n 0, 1) := by decide +kernel
theorem dX1_narrow_2 : decode cX1_narrow 2 = .ok (.getfield 15, 3) := by decide +kernel
theorem dX1_narrow_5 : decode cX1_narrow 5 = .ok (.iload_n 1, 1) := by decide +kernel
theorem dX1_narrow_6 : decode cX1_narrow 6 = .ok (.aload_n 0, 1) := by decide +kernel
theorem dX1_narrow_7 : decode cX1_narrow 7 = .ok (.getfield 19, 3) := by decide +kernel
theorem dX1_narrow_10 : decode cX1_narrow 10 = .ok (.iconst 0, 1) := by decide +kernel
theorem dX1_narrow_11 : decode cX1_narrow 11 = .ok (.iaload, 1) := by decide +kernel
theorem dX1_narrow_12 : decode cX1_narrow 12 = .ok (.imul, 1) := by decide +kernel
theorem dX1_narrow_13 : decode cX1_narrow 13 = .ok (.iload_n 2, 1) := by decide +kernel
theorem dX1_narrow_14 : decode cX1_narrow 14 = .ok (.aload_n 0, 1) := by decide +kernel
theorem dX1_narrow_15 : decode cX1_narrow 15 = .ok (.getfield 19, 3) := by decide +kernel
theorem dX1_narrow_18 : decode cX1_narrow 18 = .ok (.iconst 1, 1) := by decide +kernel
theorem dX1_narrow_19 : decode cX1_narrow 19 = .ok (.iaload, 1) := by decide +kernel
theorem dX1_narrow_20 : decode cX1_narrow 20 = .ok (.imul, 1) := by decide +kernel
theorem dX1_narrow_21 : decode cX1_narrow 21 = .ok (.iadd, 1) := by decide +kernel
theorem dX1_narrow_22 : decode cX1_narrow 22 = .ok (.iload_n 3, 1) := by decide +kernel
theorem dX1_narrow_23 : decode cX1_narrow 23 = .ok (.iadd, 1) := by decide +kernel
theorem dX1_narrow_24 : decode cX1_narrow 24 = .ok (.iconst 1, 1) := by decide +kernel
theorem dX1_narrow_25 : decode cX1_narrow 25 = .ok (.iadd, 1) := by decide +kernel
theorem dX1_narrow_26 : decode cX1_narrow 26 = .ok (.invokestatic 23, 3) := by decide +kernel
theorem dX1_narrow_29 : decode cX1_narrow 29 = .ok (.putfield 15, 3) := by decide +kernel
theorem dX1_narrow_32 : decode cX1_narrow 32 = .ok (.return_, 1) := by decide +kernel
theorem dX1_cellOf_0 : decode cX1_cellOf 0 = .ok (.iload_n 1, 1) := by decide +kernel
theorem dX1_cellOf_1 : decode cX1_cellOf 1 = .ok (.iconst 0, 1) := by decide +kernel
theorem dX1_cellOf_2 : decode cX1_cellOf 2 = .ok (.invokestatic 38, 3) := by decide +kernel
theorem dX1_cellOf_5 : decode cX1_cellOf 5 = .ok (.aload_n 0, 1) := by decide +kernel
theorem dX1_cellOf_6 : decode cX1_cellOf 6 = .ok (.getfield 19, 3) := by decide +kernel
theorem dX1_cellOf_9 : decode cX1_cellOf 9 = .ok (.iconst 0, 1) := by decide +kernel
theorem dX1_cellOf_10 : decode cX1_cellOf 10 = .ok (.iaload, 1) := by decide +kernel
theorem dX1_cellOf_11 : decode cX1_cellOf 11 = .ok (.imul, 1) := by decide +kernel
theorem dX1_cellOf_12 : decode cX1_cellOf 12 = .ok (.iload_n 1, 1) := by decide +kernel
theorem dX1_cellOf_13 : decode cX1_cellOf 13 = .ok (.iconst 1, 1) := by decide +kernel
theorem dX1_cellOf_14 : decode cX1_cellOf 14 = .ok (.invokestatic 38, 3) := by decide +kernel
theorem dX1_cellOf_17 : decode cX1_cellOf 17 = .ok (.aload_n 0, 1) := by decide +kernel
theorem dX1_cellOf_18 : decode cX1_cellOf 18 = .ok (.getfield 19, 3) := by decide +kernel
theorem dX1_cellOf_21 : decode cX1_cellOf 21 = .ok (.iconst 1, 1) := by decide +kernel
theorem dX1_cellOf_22 : decode cX1_cellOf 22 = .ok (.iaload, 1) := by decide +kernel
theorem dX1_cellOf_23 : decode cX1_cellOf 23 = .ok (.imul, 1) := by decide +kernel
theorem dX1_cellOf_24 : decode cX1_cellOf 24 = .ok (.iadd, 1) := by decide +kernel
theorem dX1_cellOf_25 : decode cX1_cellOf 25 = .ok (.iload_n 1, 1) := by decide +kernel
theorem dX1_cellOf_26 : decode cX1_cellOf 26 = .ok (.iconst 2, 1) := by decide +kernel
theorem dX1_cellOf_27 : decode cX1_cellOf 27 = .ok (.invokestatic 38, 3) := by decide +kernel
theorem dX1_cellOf_30 : decode cX1_cellOf 30 = .ok (.iadd, 1) := by decide +kernel
theorem dX1_cellOf_31 : decode cX1_cellOf 31 = .ok (.ireturn, 1) := by decide +kernel
theorem dX1_copyFrom_0 : decode cX1_copyFrom 0 = .ok (.aload_n 1, 1) := by decide +kernel
theorem dX1_copyFrom_1 : decode cX1_copyFrom 1 = .ok (.getfield 15, 3) := by decide +kernel
theorem dX1_copyFrom_4 : decode cX1_copyFrom 4 = .ok (.aload_n 0, 1) := by decide +kernel
theorem dX1_copyFrom_5 : decode cX1_copyFrom 5 = .ok (.getfield 9, 3) := by decide +kernel
theorem dX1_copyFrom_8 : decode cX1_copyFrom 8 = .ok (.arraylength, 1) := by decide +kernel
theorem dX1_copyFrom_9 : decode cX1_copyFrom 9 = .ok (.if_icmp .le 14, 3) := by decide +kernel
theorem dX1_copyFrom_12 : decode cX1_copyFrom 12 = .ok (.aload_n 0, 1) := by decide +kernel
theorem dX1_copyFrom_13 : decode cX1_copyFrom 13 = .ok (.aload_n 1, 1) := by decide +kernel
theorem dX1_copyFrom_14 : decode cX1_copyFrom 14 = .ok (.getfield 9, 3) := by decide +kernel
theorem dX1_copyFrom_17 : decode cX1_copyFrom 17 = .ok (.arraylength, 1) := by decide +kernel
theorem dX1_copyFrom_18 : decode cX1_copyFrom 18 = .ok (.newarray .int, 2) := by decide +kernel
theorem dX1_copyFrom_20 : decode cX1_copyFrom 20 = .ok (.putfield 9, 3) := by decide +kernel
theorem dX1_copyFrom_23 : decode cX1_copyFrom 23 = .ok (.aload_n 0, 1) := by decide +kernel
theorem dX1_copyFrom_24 : decode cX1_copyFrom 24 = .ok (.aload_n 1, 1) := by decide +kernel
theorem dX1_copyFrom_25 : decode cX1_copyFrom 25 = .ok (.getfield 15, 3) := by decide +kernel
theorem dX1_copyFrom_28 : decode cX1_copyFrom 28 = .ok (.putfield 15, 3) := by decide +kernel
theorem dX1_copyFrom_31 : decode cX1_copyFrom 31 = .ok (.aload_n 0, 1) := by decide +kernel
theorem dX1_copyFrom_32 : decode cX1_copyFrom 32 = .ok (.getfield 19, 3) := by decide +kernel
theorem dX1_copyFrom_35 : decode cX1_copyFrom 35 = .ok (.iconst 0, 1) := by decide +kernel
theorem dX1_copyFrom_36 : decode cX1_copyFrom 36 = .ok (.aload_n 1, 1) := by decide +kernel
theorem dX1_copyFrom_37 : decode cX1_copyFrom 37 = .ok (.getfield 19, 3) := by decide +kernel
theorem dX1_copyFrom_40 : decode cX1_copyFrom 40 = .ok (.iconst 0, 1) := by decide +kernel
theorem dX1_copyFrom_41 : decode cX1_copyFrom 41 = .ok (.iaload, 1) := by decide +kernel
theorem dX1_copyFrom_42 : decode cX1_copyFrom 42 = .ok (.iastore, 1) := by decide +kernel
theorem dX1_copyFrom_43 : decode cX1_copyFrom 43 = .ok (.aload_n 0, 1) := by decide +kernel
theorem dX1_copyFrom_44 : decode cX1_copyFrom 44 = .ok (.getfield 19, 3) := by decide +kernel
theorem dX1_copyFrom_47 : decode cX1_copyFrom 47 = .ok (.iconst 1, 1) := by decide +kernel
theorem dX1_copyFrom_48 : decode cX1_copyFrom 48 = .ok (.aload_n 1, 1) := by decide +kernel
theorem dX1_copyFrom_49 : decode cX1_copyFrom 49 = .ok (.getfield 19, 3) := by decide +kernel
theorem dX1_copyFrom_52 : decode cX1_copyFrom 52 = .ok (.iconst 1, 1) := by decide +kernel
theorem dX1_copyFrom_53 : decode cX1_copyFrom 53 = .ok (.iaload, 1) := by decide +kernel
theorem dX1_copyFrom_54 : decode cX1_copyFrom 54 = .ok (.iastore, 1) := by decide +kernel
theorem dX1_copyFrom_55 : decode cX1_copyFrom 55 = .ok (.aload_n 1, 1) := by decide +kernel
theorem dX1_copyFrom_56 : decode cX1_copyFrom 56 = .ok (.getfield 9, 3) := by decide +kernel
theorem dX1_copyFrom_59 : decode cX1_copyFrom 59 = .ok (.iconst 0, 1) := by decide +kernel
theorem dX1_copyFrom_60 : decode cX1_copyFrom 60 = .ok (.aload_n 0, 1) := by decide +kernel
theorem dX1_copyFrom_61 : decode cX1_copyFrom 61 = .ok (.getfield 9, 3) := by decide +kernel
theorem dX1_copyFrom_64 : decode cX1_copyFrom 64 = .ok (.iconst 0, 1) := by decide +kernel
theorem dX1_copyFrom_65 : decode cX1_copyFrom 65 = .ok (.aload_n 0, 1) := by decide +kernel
theorem dX1_copyFrom_66 : decode cX1_copyFrom 66 = .ok (.getfield 15, 3) := by decide +kernel
theorem dX1_copyFrom_69 : decode cX1_copyFrom 69 = .ok (.invokestatic 43, 3) := by decide +kernel
theorem dX1_copyFrom_72 : decode cX1_copyFrom 72 = .ok (.return_, 1) := by decide +kernel
theorem dX1_readInto_0 : decode cX1_readInto 0 = .ok (.aload_n 1, 1) := by decide +kernel
theorem dX1_readInto_1 : decode cX1_readInto 1 = .ok (.invokevirtual 49, 3) := by decide +kernel
theorem dX1_readInto_4 : decode cX1_readInto 4 = .ok (.aload_n 0, 1) := by decide +kernel
theorem dX1_readInto_5 : decode cX1_readInto 5 = .ok (.getfield 15, 3) := by decide +kernel
theorem dX1_readInto_8 : decode cX1_readInto 8 = .ok (.iconst 1, 1) := by decide +kernel
theorem dX1_readInto_9 : decode cX1_readInto 9 = .ok (.isub, 1) := by decide +kernel
theorem dX1_readInto_10 : decode cX1_readInto 10 = .ok (.istore_n 3, 1) := by decide +kernel
theorem dX1_readInto_11 : decode cX1_readInto 11 = .ok (.iload_n 3, 1) := by decide +kernel
theorem dX1_readInto_12 : decode cX1_readInto 12 = .ok (.ifCond .lt 39, 3) := by decide +kernel
theorem dX1_readInto_15 : decode cX1_readInto 15 = .ok (.aload_n 1, 1) := by decide +kernel
theorem dX1_readInto_16 : decode cX1_readInto 16 = .ok (.getfield 52, 3) := by decide +kernel
theorem dX1_readInto_19 : decode cX1_readInto 19 = .ok (.ifCond .ne 32, 3) := by decide +kernel
theorem dX1_readInto_22 : decode cX1_readInto 22 = .ok (.aload_n 0, 1) := by decide +kernel
theorem dX1_readInto_23 : decode cX1_readInto 23 = .ok (.getfield 9, 3) := by decide +kernel
theorem dX1_readInto_26 : decode cX1_readInto 26 = .ok (.iload_n 3, 1) := by decide +kernel
theorem dX1_readInto_27 : decode cX1_readInto 27 = .ok (.iaload, 1) := by decide +kernel
theorem dX1_readInto_28 : decode cX1_readInto 28 = .ok (.ifCond .eq 17, 3) := by decide +kernel
theorem dX1_readInto_31 : decode cX1_readInto 31 = .ok (.aload_n 0, 1) := by decide +kernel
theorem dX1_readInto_32 : decode cX1_readInto 32 = .ok (.aload_n 1, 1) := by decide +kernel
theorem dX1_readInto_33 : decode cX1_readInto 33 = .ok (.iload_n 3, 1) := by decide +kernel
theorem dX1_readInto_34 : decode cX1_readInto 34 = .ok (.aload_n 0, 1) := by decide +kernel
theorem dX1_readInto_35 : decode cX1_readInto 35 = .ok (.getfield 9, 3) := by decide +kernel
theorem dX1_readInto_38 : decode cX1_readInto 38 = .ok (.iload_n 3, 1) := by decide +kernel
theorem dX1_readInto_39 : decode cX1_readInto 39 = .ok (.iaload, 1) := by decide +kernel
theorem dX1_readInto_40 : decode cX1_readInto 40 = .ok (.iload_n 2, 1) := by decide +kernel
theorem dX1_readInto_41 : decode cX1_readInto 41 = .ok (.irem, 1) := by decide +kernel
theorem dX1_readInto_42 : decode cX1_readInto 42 = .ok (.invokevirtual 56, 3) := by decide +kernel
theorem dX1_readInto_45 : decode cX1_readInto 45 = .ok (.iinc 3 (-1), 3) := by decide +kernel
theorem dX1_readInto_48 : decode cX1_readInto 48 = .ok (.goto (-37), 3) := by decide +kernel
theorem dX1_readInto_51 : decode cX1_readInto 51 = .ok (.return_, 1) := by decide +kernel
theorem dX1_pushCell_0 : decode cX1_pushCell 0 = .ok (.iload_n 2, 1) := by decide +kernel
theorem dX1_pushCell_1 : decode cX1_pushCell 1 = .ok (.aload_n 0, 1) := by decide +kernel
theorem dX1_pushCell_2 : decode cX1_pushCell 2 = .ok (.getfield 19, 3) := by decide +kernel
theorem dX1_pushCell_5 : decode cX1_pushCell 5 = .ok (.iconst 0, 1) := by decide +kernel
theorem dX1_pushCell_6 : decode cX1_pushCell 6 = .ok (.iaload, 1) := by decide +kernel
theorem dX1_pushCell_7 : decode cX1_pushCell 7 = .ok (.idiv, 1) := by decide +kernel
theorem dX1_pushCell_8 : decode cX1_pushCell 8 = .ok (.istore 4, 2) := by decide +kernel
theorem dX1_pushCell_10 : decode cX1_pushCell 10 = .ok (.iload_n 2, 1) := by decide +kernel
theorem dX1_pushCell_11 : decode cX1_pushCell 11 = .ok (.iload 4, 2) := by decide +kernel
theorem dX1_pushCell_13 : decode cX1_pushCell 13 = .ok (.aload_n 0, 1) := by decide +kernel
theorem dX1_pushCell_14 : decode cX1_pushCell 14 = .ok (.getfield 19, 3) := by decide +kernel
theorem dX1_pushCell_17 : decode cX1_pushCell 17 = .ok (.iconst 0, 1) := by decide +kernel
theorem dX1_pushCell_18 : decode cX1_pushCell 18 = .ok (.iaload, 1) := by decide +kernel
theorem dX1_pushCell_19 : decode cX1_pushCell 19 = .ok (.imul, 1) := by decide +kernel
theorem dX1_pushCell_20 : decode cX1_pushCell 20 = .ok (.isub, 1) := by decide +kernel
theorem dX1_pushCell_21 : decode cX1_pushCell 21 = .ok (.istore 5, 2) := by decide +kernel
theorem dX1_pushCell_23 : decode cX1_pushCell 23 = .ok (.iload 5, 2) := by decide +kernel
theorem dX1_pushCell_25 : decode cX1_pushCell 25 = .ok (.aload_n 0, 1) := by decide +kernel
theorem dX1_pushCell_26 : decode cX1_pushCell 26 = .ok (.getfield 19, 3) := by decide +kernel
theorem dX1_pushCell_29 : decode cX1_pushCell 29 = .ok (.iconst 1, 1) := by decide +kernel
theorem dX1_pushCell_30 : decode cX1_pushCell 30 = .ok (.iaload, 1) := by decide +kernel
theorem dX1_pushCell_31 : decode cX1_pushCell 31 = .ok (.idiv, 1) := by decide +kernel
theorem dX1_pushCell_32 : decode cX1_pushCell 32 = .ok (.istore 6, 2) := by decide +kernel
theorem dX1_pushCell_34 : decode cX1_pushCell 34 = .ok (.iload 5, 2) := by decide +kernel
theorem dX1_pushCell_36 : decode cX1_pushCell 36 = .ok (.iload 6, 2) := by decide +kernel
theorem dX1_pushCell_38 : decode cX1_pushCell 38 = .ok (.aload_n 0, 1) := by decide +kernel
theorem dX1_pushCell_39 : decode cX1_pushCell 39 = .ok (.getfield 19, 3) := by decide +kernel
theorem dX1_pushCell_42 : decode cX1_pushCell 42 = .ok (.iconst 1, 1) := by decide +kernel
theorem dX1_pushCell_43 : decode cX1_pushCell 43 = .ok (.iaload, 1) := by decide +kernel
theorem dX1_pushCell_44 : decode cX1_pushCell 44 = .ok (.imul, 1) := by decide +kernel
theorem dX1_pushCell_45 : decode cX1_pushCell 45 = .ok (.isub, 1) := by decide +kernel
theorem dX1_pushCell_46 : decode cX1_pushCell 46 = .ok (.istore 7, 2) := by decide +kernel
theorem dX1_pushCell_48 : decode cX1_pushCell 48 = .ok (.iload 4, 2) := by decide +kernel
theorem dX1_pushCell_50 : decode cX1_pushCell 50 = .ok (.bipush 40, 2) := by decide +kernel
theorem dX1_pushCell_52 : decode cX1_pushCell 52 = .ok (.if_icmp .gt 34, 3) := by decide +kernel
theorem dX1_pushCell_55 : decode cX1_pushCell 55 = .ok (.iload 6, 2) := by decide +kernel
theorem dX1_pushCell_57 : decode cX1_pushCell 57 = .ok (.bipush 40, 2) := by decide +kernel
theorem dX1_pushCell_59 : decode cX1_pushCell 59 = .ok (.if_icmp .gt 27, 3) := by decide +kernel
theorem dX1_pushCell_62 : decode cX1_pushCell 62 = .ok (.iload 7, 2) := by decide +kernel
theorem dX1_pushCell_64 : decode cX1_pushCell 64 = .ok (.bipush 40, 2) := by decide +kernel
theorem dX1_pushCell_66 : decode cX1_pushCell 66 = .ok (.if_icmp .gt 20, 3) := by decide +kernel
theorem dX1_pushCell_69 : decode cX1_pushCell 69 = .ok (.aload_n 1, 1) := by decide +kernel
theorem dX1_pushCell_70 : decode cX1_pushCell 70 = .ok (.iload 4, 2) := by decide +kernel
theorem dX1_pushCell_72 : decode cX1_pushCell 72 = .ok (.iload 6, 2) := by decide +kernel
theorem dX1_pushCell_74 : decode cX1_pushCell 74 = .ok (.iload 7, 2) := by decide +kernel
theorem dX1_pushCell_76 : decode cX1_pushCell 76 = .ok (.invokestatic 60, 3) := by decide +kernel
theorem dX1_pushCell_79 : decode cX1_pushCell 79 = .ok (.iload_n 3, 1) := by decide +kernel
theorem dX1_pushCell_80 : decode cX1_pushCell 80 = .ok (.invokevirtual 64, 3) := by decide +kernel
theorem dX1_pushCell_83 : decode cX1_pushCell 83 = .ok (.goto 12, 3) := by decide +kernel
theorem dX1_pushCell_86 : decode cX1_pushCell 86 = .ok (.iload_n 3, 1) := by decide +kernel
theorem dX1_pushCell_87 : decode cX1_pushCell 87 = .ok (.ifCond .eq 8, 3) := by decide +kernel
theorem dX1_pushCell_90 : decode cX1_pushCell 90 = .ok (.aload_n 1, 1) := by decide +kernel
theorem dX1_pushCell_91 : decode cX1_pushCell 91 = .ok (.iconst 1, 1) := by decide +kernel
theorem dX1_pushCell_92 : decode cX1_pushCell 92 = .ok (.putfield 52, 3) := by decide +kernel
theorem dX1_pushCell_95 : decode cX1_pushCell 95 = .ok (.return_, 1) := by decide +kernel
theorem dX3_init_0 : decode cX3_init 0 = .ok (.aload_n 0, 1) := by decide +kernel
theorem dX3_init_1 : decode cX3_init 1 = .ok (.invokespecial 1, 3) := by decide +kernel
theorem dX3_init_4 : decode cX3_init 4 = .ok (.aload_n 0, 1) := by decide +kernel
theorem dX3_init_5 : decode cX3_init 5 = .ok (.iload_n 1, 1) := by decide +kernel
theorem dX3_init_6 : decode cX3_init 6 = .ok (.iload_n 2, 1) := by decide +kernel
theorem dX3_init_7 : decode cX3_init 7 = .ok (.iload_n 3, 1) := by decide +kernel
theorem dX3_init_8 : decode cX3_init 8 = .ok (.iload 4, 2) := by decide +kernel
theorem dX3_init_10 : decode cX3_init 10 = .ok (.invokevirtual 7, 3) := by decide +kernel
theorem dX3_init_13 : decode cX3_init 13 = .ok (.return_, 1) := by decide +kernel
theorem dX3_set_0 : decode cX3_set 0 = .ok (.aload_n 0, 1) := by decide +kernel
theorem dX3_set_1 : decode cX3_set 1 = .ok (.iload_n 1, 1) := by decide +kernel
theorem dX3_set_2 : decode cX3_set 2 = .ok (.ifCond .eq 7, 3) := by decide +kernel
theorem dX3_set_5 : decode cX3_set 5 = .ok (.iconst 0, 1) := by decide +kernel
theorem dX3_set_6 : decode cX3_set 6 = .ok (.goto 12, 3) := by decide +kernel
theorem dX3_set_9 : decode cX3_set 9 = .ok (.iload_n 2, 1) := by decide +kernel
theorem dX3_set_10 : decode cX3_set 10 = .ok (.ifCond .eq 7, 3) := by decide +kernel
theorem dX3_set_13 : decode cX3_set 13 = .ok (.iconst 1, 1) := by decide +kernel
theorem dX3_set_14 : decode cX3_set 14 = .ok (.goto 4, 3) := by decide +kernel
theorem dX3_set_17 : decode cX3_set 17 = .ok (.iconst 2, 1) := by decide +kernel
theorem dX3_set_18 : decode cX3_set 18 = .ok (.putfield 13, 3) := by decide +kernel
theorem dX3_set_21 : decode cX3_set 21 = .ok (.aload_n 0, 1) := by decide +kernel
theorem dX3_set_22 : decode cX3_set 22 = .ok (.aload_n 0, 1) := by decide +kernel
theorem dX3_set_23 : decode cX3_set 23 = .ok (.getfield 13, 3) := by decide +kernel
theorem dX3_set_26 : decode cX3_set 26 = .ok (.ifCond .ne 7, 3) := by decide +kernel
theorem dX3_set_29 : decode cX3_set 29 = .ok (.iconst 1, 1) := by decide +kernel
theorem dX3_set_30 : decode cX3_set 30 = .ok (.goto 4, 3) := by decide +kernel
theorem dX3_set_33 : decode cX3_set 33 = .ok (.iconst 0, 1) := by decide +kernel
theorem dX3_set_34 : decode cX3_set 34 = .ok (.putfield 17, 3) := by decide +kernel
theorem dX3_set_37 : decode cX3_set 37 = .ok (.aload_n 0, 1) := by decide +kernel
theorem dX3_set_38 : decode cX3_set 38 = .ok (.aload_n 0, 1) := by decide +kernel
theorem dX3_set_39 : decode cX3_set 39 = .ok (.getfield 13, 3) := by decide +kernel
theorem dX3_set_42 : decode cX3_set 42 = .ok (.iconst 2, 1) := by decide +kernel
theorem dX3_set_43 : decode cX3_set 43 = .ok (.if_icmp .ne 7, 3) := by decide +kernel
theorem dX3_set_46 : decode cX3_set 46 = .ok (.iconst 1, 1) := by decide +kernel
theorem dX3_set_47 : decode cX3_set 47 = .ok (.goto 4, 3) := by decide +kernel
theorem dX3_set_50 : decode cX3_set 50 = .ok (.iconst 2, 1) := by decide +kernel
theorem dX3_set_51 : decode cX3_set 51 = .ok (.putfield 20, 3) := by decide +kernel
theorem dX3_set_54 : decode cX3_set 54 = .ok (.aload_n 0, 1) := by decide +kernel
theorem dX3_set_55 : decode cX3_set 55 = .ok (.aload_n 0, 1) := by decide +kernel
theorem dX3_set_56 : decode cX3_set 56 = .ok (.getfield 13, 3) := by decide +kernel
theorem dX3_set_59 : decode cX3_set 59 = .ok (.ifCond .ne 7, 3) := by decide +kernel
theorem dX3_set_62 : decode cX3_set 62 = .ok (.iload_n 2, 1) := by decide +kernel
theorem dX3_set_63 : decode cX3_set 63 = .ok (.goto 4, 3) := by decide +kernel
theorem dX3_set_66 : decode cX3_set 66 = .ok (.iconst 0, 1) := by decide +kernel
theorem dX3_set_67 : decode cX3_set 67 = .ok (.putfield 23, 3) := by decide +kernel
theorem dX3_set_70 : decode cX3_set 70 = .ok (.aload_n 0, 1) := by decide +kernel
theorem dX3_set_71 : decode cX3_set 71 = .ok (.aload_n 0, 1) := by decide +kernel
theorem dX3_set_72 : decode cX3_set 72 = .ok (.getfield 13, 3) := by decide +kernel
theorem dX3_set_75 : decode cX3_set 75 = .ok (.iconst 2, 1) := by decide +kernel
theorem dX3_set_76 : decode cX3_set 76 = .ok (.if_icmp .ne 7, 3) := by decide +kernel
theorem dX3_set_79 : decode cX3_set 79 = .ok (.iconst 0, 1) := by decide +kernel
theorem dX3_set_80 : decode cX3_set 80 = .ok (.goto 4, 3) := by decide +kernel
theorem dX3_set_83 : decode cX3_set 83 = .ok (.iload_n 3, 1) := by decide +kernel
theorem dX3_set_84 : decode cX3_set 84 = .ok (.putfield 26, 3) := by decide +kernel
theorem dX3_set_87 : decode cX3_set 87 = .ok (.aload_n 0, 1) := by decide +kernel
theorem dX3_set_88 : decode cX3_set 88 = .ok (.iload 4, 2) := by decide +kernel
theorem dX3_set_90 : decode cX3_set 90 = .ok (.putfield 29, 3) := by decide +kernel
theorem dX3_set_93 : decode cX3_set 93 = .ok (.return_, 1) := by decide +kernel
theorem dX3_isVariable_0 : decode cX3_isVariable 0 = .ok (.aload_n 0, 1) := by decide +kernel
theorem dX3_isVariable_1 : decode cX3_isVariable 1 = .ok (.getfield 23, 3) := by decide +kernel
theorem dX3_isVariable_4 : decode cX3_isVariable 4 = .ok (.ifCond .ne 21, 3) := by decide +kernel
theorem dX3_isVariable_7 : decode cX3_isVariable 7 = .ok (.aload_n 0, 1) := by decide +kernel
theorem dX3_isVariable_8 : decode cX3_isVariable 8 = .ok (.getfield 26, 3) := by decide +kernel
theorem dX3_isVariable_11 : decode cX3_isVariable 11 = .ok (.ifCond .ne 14, 3) := by decide +kernel
theorem dX3_isVariable_14 : decode cX3_isVariable 14 = .ok (.aload_n 0, 1) := by decide +kernel
theorem dX3_isVariable_15 : decode cX3_isVariable 15 = .ok (.getfield 29, 3) := by decide +kernel
theorem dX3_isVariable_18 : decode cX3_isVariable 18 = .ok (.ifCond .ne 7, 3) := by decide +kernel
theorem dX3_isVariable_21 : decode cX3_isVariable 21 = .ok (.iconst 1, 1) := by decide +kernel
theorem dX3_isVariable_22 : decode cX3_isVariable 22 = .ok (.goto 4, 3) := by decide +kernel
theorem dX3_isVariable_25 : decode cX3_isVariable 25 = .ok (.iconst 0, 1) := by decide +kernel
theorem dX3_isVariable_26 : decode cX3_isVariable 26 = .ok (.ireturn, 1) := by decide +kernel
theorem dX4_init_0 : decode cX4_init 0 = .ok (.aload_n 0, 1) := by decide +kernel
theorem dX4_init_1 : decode cX4_init 1 = .ok (.invokespecial 3, 3) := by decide +kernel
theorem dX4_init_4 : decode cX4_init 4 = .ok (.aload_n 0, 1) := by decide +kernel
theorem dX4_init_5 : decode cX4_init 5 = .ok (.sipush 300, 3) := by decide +kernel
theorem dX4_init_8 : decode cX4_init 8 = .ok (.newarray .int, 2) := by decide +kernel
theorem dX4_init_10 : decode cX4_init 10 = .ok (.putfield 9, 3) := by decide +kernel
theorem dX4_init_13 : decode cX4_init 13 = .ok (.return_, 1) := by decide +kernel
theorem dX4_indexOf_0 : decode cX4_indexOf 0 = .ok (.aload_n 0, 1) := by decide +kernel
theorem dX4_indexOf_1 : decode cX4_indexOf 1 = .ok (.getfield 9, 3) := by decide +kernel
theorem dX4_indexOf_4 : decode cX4_indexOf 4 = .ok (.iload_n 1, 1) := by decide +kernel
theorem dX4_indexOf_5 : decode cX4_indexOf 5 = .ok (.iaload, 1) := by decide +kernel
theorem dX4_indexOf_6 : decode cX4_indexOf 6 = .ok (.sipush 511, 3) := by decide +kernel
theorem dX4_indexOf_9 : decode cX4_indexOf 9 = .ok (.iand, 1) := by decide +kernel
theorem dX4_indexOf_10 : decode cX4_indexOf 10 = .ok (.ireturn, 1) := by decide +kernel
theorem dX4_sort_0 : decode cX4_sort 0 = .ok (.iconst 0, 1) := by decide +kernel
theorem dX4_sort_1 : decode cX4_sort 1 = .ok (.istore_n 3, 1) := by decide +kernel
theorem dX4_sort_2 : decode cX4_sort 2 = .ok (.iload_n 3, 1) := by decide +kernel
theorem dX4_sort_3 : decode cX4_sort 3 = .ok (.aload_n 1, 1) := by decide +kernel
theorem dX4_sort_4 : decode cX4_sort 4 = .ok (.getfield 15, 3) := by decide +kernel
theorem dX4_sort_7 : decode cX4_sort 7 = .ok (.if_icmp .ge 30, 3) := by decide +kernel
theorem dX4_sort_10 : decode cX4_sort 10 = .ok (.aload_n 0, 1) := by decide +kernel
theorem dX4_sort_11 : decode cX4_sort 11 = .ok (.getfield 9, 3) := by decide +kernel
theorem dX4_sort_14 : decode cX4_sort 14 = .ok (.iload_n 3, 1) := by decide +kernel
theorem dX4_sort_15 : decode cX4_sort 15 = .ok (.aload_n 1, 1) := by decide +kernel
theorem dX4_sort_16 : decode cX4_sort 16 = .ok (.getfield 21, 3) := by decide +kernel
theorem dX4_sort_19 : decode cX4_sort 19 = .ok (.iload_n 3, 1) := by decide +kernel
theorem dX4_sort_20 : decode cX4_sort 20 = .ok (.iaload, 1) := by decide +kernel
theorem dX4_sort_21 : decode cX4_sort 21 = .ok (.iload_n 2, 1) := by decide +kernel
theorem dX4_sort_22 : decode cX4_sort 22 = .ok (.invokestatic 24, 3) := by decide +kernel
theorem dX4_sort_25 : decode cX4_sort 25 = .ok (.bipush 9, 2) := by decide +kernel
theorem dX4_sort_27 : decode cX4_sort 27 = .ok (.ishl, 1) := by decide +kernel
theorem dX4_sort_28 : decode cX4_sort 28 = .ok (.iload_n 3, 1) := by decide +kernel
theorem dX4_sort_29 : decode cX4_sort 29 = .ok (.ior, 1) := by decide +kernel
theorem dX4_sort_30 : decode cX4_sort 30 = .ok (.iastore, 1) := by decide +kernel
theorem dX4_sort_31 : decode cX4_sort 31 = .ok (.iinc 3 1, 3) := by decide +kernel
theorem dX4_sort_34 : decode cX4_sort 34 = .ok (.goto (-32), 3) := by decide +kernel
theorem dX4_sort_37 : decode cX4_sort 37 = .ok (.iload_n 2, 1) := by decide +kernel
theorem dX4_sort_38 : decode cX4_sort 38 = .ok (.iconst 1, 1) := by decide +kernel
theorem dX4_sort_39 : decode cX4_sort 39 = .ok (.if_icmp .ne 4, 3) := by decide +kernel
theorem dX4_sort_42 : decode cX4_sort 42 = .ok (.return_, 1) := by decide +kernel
theorem dX4_sort_43 : decode cX4_sort 43 = .ok (.aload_n 1, 1) := by decide +kernel
theorem dX4_sort_44 : decode cX4_sort 44 = .ok (.getfield 15, 3) := by decide +kernel
theorem dX4_sort_47 : decode cX4_sort 47 = .ok (.iconst 2, 1) := by decide +kernel
theorem dX4_sort_48 : decode cX4_sort 48 = .ok (.idiv, 1) := by decide +kernel
theorem dX4_sort_49 : decode cX4_sort 49 = .ok (.istore_n 3, 1) := by decide +kernel
theorem dX4_sort_50 : decode cX4_sort 50 = .ok (.iload_n 3, 1) := by decide +kernel
theorem dX4_sort_51 : decode cX4_sort 51 = .ok (.ifCond .le 35, 3) := by decide +kernel
theorem dX4_sort_54 : decode cX4_sort 54 = .ok (.iload_n 3, 1) := by decide +kernel
theorem dX4_sort_55 : decode cX4_sort 55 = .ok (.istore 4, 2) := by decide +kernel
theorem dX4_sort_57 : decode cX4_sort 57 = .ok (.iload 4, 2) := by decide +kernel
theorem dX4_sort_59 : decode cX4_sort 59 = .ok (.aload_n 1, 1) := by decide +kernel
theorem dX4_sort_60 : decode cX4_sort 60 = .ok (.getfield 15, 3) := by decide +kernel
theorem dX4_sort_63 : decode cX4_sort 63 = .ok (.if_icmp .ge 16, 3) := by decide +kernel
theorem dX4_sort_66 : decode cX4_sort 66 = .ok (.aload_n 0, 1) := by decide +kernel
theorem dX4_sort_67 : decode cX4_sort 67 = .ok (.iload 4, 2) := by decide +kernel
theorem dX4_sort_69 : decode cX4_sort 69 = .ok (.iload_n 3, 1) := by decide +kernel
theorem dX4_sort_70 : decode cX4_sort 70 = .ok (.invokevirtual 28, 3) := by decide +kernel
theorem dX4_sort_73 : decode cX4_sort 73 = .ok (.iinc 4 1, 3) := by decide +kernel
theorem dX4_sort_76 : decode cX4_sort 76 = .ok (.goto (-19), 3) := by decide +kernel
theorem dX4_sort_79 : decode cX4_sort 79 = .ok (.iload_n 3, 1) := by decide +kernel
theorem dX4_sort_80 : decode cX4_sort 80 = .ok (.iconst 2, 1) := by decide +kernel
theorem dX4_sort_81 : decode cX4_sort 81 = .ok (.idiv, 1) := by decide +kernel
theorem dX4_sort_82 : decode cX4_sort 82 = .ok (.istore_n 3, 1) := by decide +kernel
theorem dX4_sort_83 : decode cX4_sort 83 = .ok (.goto (-33), 3) := by decide +kernel
theorem dX4_sort_86 : decode cX4_sort 86 = .ok (.return_, 1) := by decide +kernel
theorem dX4_rank_0 : decode cX4_rank 0 = .ok (.iload_n 1, 1) := by decide +kernel
theorem dX4_rank_1 : decode cX4_rank 1 = .ok (.lookupswitch 42 #[(0, 27), (1, 40)], 27) := by decide +kernel
theorem dX4_rank_28 : decode cX4_rank 28 = .ok (.iload_n 0, 1) := by decide +kernel
theorem dX4_rank_29 : decode cX4_rank 29 = .ok (.invokestatic 32, 3) := by decide +kernel
theorem dX4_rank_32 : decode cX4_rank 32 = .ok (.bipush 12, 2) := by decide +kernel
theorem dX4_rank_34 : decode cX4_rank 34 = .ok (.ishl, 1) := by decide +kernel
theorem dX4_rank_35 : decode cX4_rank 35 = .ok (.iload_n 0, 1) := by decide +kernel
theorem dX4_rank_36 : decode cX4_rank 36 = .ok (.bipush 6, 2) := by decide +kernel
theorem dX4_rank_38 : decode cX4_rank 38 = .ok (.ishr, 1) := by decide +kernel
theorem dX4_rank_39 : decode cX4_rank 39 = .ok (.ior, 1) := by decide +kernel
theorem dX4_rank_40 : decode cX4_rank 40 = .ok (.ireturn, 1) := by decide +kernel
theorem dX4_rank_41 : decode cX4_rank 41 = .ok (.iload_n 0, 1) := by decide +kernel
theorem dX4_rank_42 : decode cX4_rank 42 = .ok (.ireturn, 1) := by decide +kernel
theorem dX4_rank_43 : decode cX4_rank 43 = .ok (.iload_n 0, 1) := by decide +kernel
theorem dX4_rank_44 : decode cX4_rank 44 = .ok (.iconst 2, 1) := by decide +kernel
theorem dX4_rank_45 : decode cX4_rank 45 = .ok (.invokestatic 36, 3) := by decide +kernel
theorem dX4_rank_48 : decode cX4_rank 48 = .ok (.iload_n 0, 1) := by decide +kernel
theorem dX4_rank_49 : decode cX4_rank 49 = .ok (.iconst 1, 1) := by decide +kernel
theorem dX4_rank_50 : decode cX4_rank 50 = .ok (.invokestatic 36, 3) := by decide +kernel
theorem dX4_rank_53 : decode cX4_rank 53 = .ok (.iload_n 0, 1) := by decide +kernel
theorem dX4_rank_54 : decode cX4_rank 54 = .ok (.iconst 0, 1) := by decide +kernel
theorem dX4_rank_55 : decode cX4_rank 55 = .ok (.invokestatic 36, 3) := by decide +kernel
theorem dX4_rank_58 : decode cX4_rank 58 = .ok (.invokestatic 39, 3) := by decide +kernel
theorem dX4_rank_61 : decode cX4_rank 61 = .ok (.ireturn, 1) := by decide +kernel
theorem dX4_sink_0 : decode cX4_sink 0 = .ok (.aload_n 0, 1) := by decide +kernel
theorem dX4_sink_1 : decode cX4_sink 1 = .ok (.getfield 9, 3) := by decide +kernel
theorem dX4_sink_4 : decode cX4_sink 4 = .ok (.iload_n 1, 1) := by decide +kernel
theorem dX4_sink_5 : decode cX4_sink 5 = .ok (.iaload, 1) := by decide +kernel
theorem dX4_sink_6 : decode cX4_sink 6 = .ok (.istore_n 3, 1) := by decide +kernel
theorem dX4_sink_7 : decode cX4_sink 7 = .ok (.iload_n 1, 1) := by decide +kernel
theorem dX4_sink_8 : decode cX4_sink 8 = .ok (.istore 4, 2) := by decide +kernel
theorem dX4_sink_10 : decode cX4_sink 10 = .ok (.iload 4, 2) := by decide +kernel
theorem dX4_sink_12 : decode cX4_sink 12 = .ok (.iload_n 2, 1) := by decide +kernel
theorem dX4_sink_13 : decode cX4_sink 13 = .ok (.if_icmp .lt 41, 3) := by decide +kernel
theorem dX4_sink_16 : decode cX4_sink 16 = .ok (.aload_n 0, 1) := by decide +kernel
theorem dX4_sink_17 : decode cX4_sink 17 = .ok (.getfield 9, 3) := by decide +kernel
theorem dX4_sink_20 : decode cX4_sink 20 = .ok (.iload 4, 2) := by decide +kernel
theorem dX4_sink_22 : decode cX4_sink 22 = .ok (.iload_n 2, 1) := by decide +kernel
theorem dX4_sink_23 : decode cX4_sink 23 = .ok (.isub, 1) := by decide +kernel
theorem dX4_sink_24 : decode cX4_sink 24 = .ok (.iaload, 1) := by decide +kernel
theorem dX4_sink_25 : decode cX4_sink 25 = .ok (.iload_n 3, 1) := by decide +kernel
theorem dX4_sink_26 : decode cX4_sink 26 = .ok (.if_icmp .ge 28, 3) := by decide +kernel
theorem dX4_sink_29 : decode cX4_sink 29 = .ok (.aload_n 0, 1) := by decide +kernel
theorem dX4_sink_30 : decode cX4_sink 30 = .ok (.getfield 9, 3) := by decide +kernel
theorem dX4_sink_33 : decode cX4_sink 33 = .ok (.iload 4, 2) := by decide +kernel
theorem dX4_sink_35 : decode cX4_sink 35 = .ok (.aload_n 0, 1) := by decide +kernel
theorem dX4_sink_36 : decode cX4_sink 36 = .ok (.getfield 9, 3) := by decide +kernel
theorem dX4_sink_39 : decode cX4_sink 39 = .ok (.iload 4, 2) := by decide +kernel
theorem dX4_sink_41 : decode cX4_sink 41 = .ok (.iload_n 2, 1) := by decide +kernel
theorem dX4_sink_42 : decode cX4_sink 42 = .ok (.isub, 1) := by decide +kernel
theorem dX4_sink_43 : decode cX4_sink 43 = .ok (.iaload, 1) := by decide +kernel
theorem dX4_sink_44 : decode cX4_sink 44 = .ok (.iastore, 1) := by decide +kernel
theorem dX4_sink_45 : decode cX4_sink 45 = .ok (.iload 4, 2) := by decide +kernel
theorem dX4_sink_47 : decode cX4_sink 47 = .ok (.iload_n 2, 1) := by decide +kernel
theorem dX4_sink_48 : decode cX4_sink 48 = .ok (.isub, 1) := by decide +kernel
theorem dX4_sink_49 : decode cX4_sink 49 = .ok (.istore 4, 2) := by decide +kernel
theorem dX4_sink_51 : decode cX4_sink 51 = .ok (.goto (-41), 3) := by decide +kernel
theorem dX4_sink_54 : decode cX4_sink 54 = .ok (.aload_n 0, 1) := by decide +kernel
theorem dX4_sink_55 : decode cX4_sink 55 = .ok (.getfield 9, 3) := by decide +kernel
theorem dX4_sink_58 : decode cX4_sink 58 = .ok (.iload 4, 2) := by decide +kernel
theorem dX4_sink_60 : decode cX4_sink 60 = .ok (.iload_n 3, 1) := by decide +kernel
theorem dX4_sink_61 : decode cX4_sink 61 = .ok (.iastore, 1) := by decide +kernel
theorem dX4_sink_62 : decode cX4_sink 62 = .ok (.return_, 1) := by decide +kernel
theorem dX5_init_0 : decode cX5_init 0 = .ok (.aload_n 0, 1) := by decide +kernel
theorem dX5_init_1 : decode cX5_init 1 = .ok (.invokespecial 3, 3) := by decide +kernel
theorem dX5_init_4 : decode cX5_init 4 = .ok (.aload_n 0, 1) := by decide +kernel
theorem dX5_init_5 : decode cX5_init 5 = .ok (.sipush 2197, 3) := by decide +kernel
theorem dX5_init_8 : decode cX5_init 8 = .ok (.newarray .int, 2) := by decide +kernel
theorem dX5_init_10 : decode cX5_init 10 = .ok (.putfield 9, 3) := by decide +kernel
theorem dX5_init_13 : decode cX5_init 13 = .ok (.aload_n 0, 1) := by decide +kernel
theorem dX5_init_14 : decode cX5_init 14 = .ok (.bipush 13, 2) := by decide +kernel
theorem dX5_init_16 : decode cX5_init 16 = .ok (.newarray .int, 2) := by decide +kernel
theorem dX5_init_18 : decode cX5_init 18 = .ok (.putfield 15, 3) := by decide +kernel
theorem dX5_init_21 : decode cX5_init 21 = .ok (.aload_n 0, 1) := by decide +kernel
theorem dX5_init_22 : decode cX5_init 22 = .ok (.iconst 2, 1) := by decide +kernel
theorem dX5_init_23 : decode cX5_init 23 = .ok (.putfield 18, 3) := by decide +kernel
theorem dX5_init_26 : decode cX5_init 26 = .ok (.aload_n 0, 1) := by decide +kernel
theorem dX5_init_27 : decode cX5_init 27 = .ok (.bipush 8, 2) := by decide +kernel
theorem dX5_init_29 : decode cX5_init 29 = .ok (.putfield 22, 3) := by decide +kernel
theorem dX5_init_32 : decode cX5_init 32 = .ok (.return_, 1) := by decide +kernel
theorem dX5_load_0 : decode cX5_load 0 = .ok (.aload_n 0, 1) := by decide +kernel
theorem dX5_load_1 : decode cX5_load 1 = .ok (.iload_n 3, 1) := by decide +kernel
theorem dX5_load_2 : decode cX5_load 2 = .ok (.putfield 18, 3) := by decide +kernel
theorem dX5_load_5 : decode cX5_load 5 = .ok (.aload_n 0, 1) := by decide +kernel
theorem dX5_load_6 : decode cX5_load 6 = .ok (.aload_n 0, 1) := by decide +kernel
theorem dX5_load_7 : decode cX5_load 7 = .ok (.getfield 18, 3) := by decide +kernel
theorem dX5_load_10 : decode cX5_load 10 = .ok (.aload_n 0, 1) := by decide +kernel
theorem dX5_load_11 : decode cX5_load 11 = .ok (.getfield 18, 3) := by decide +kernel
theorem dX5_load_14 : decode cX5_load 14 = .ok (.imul, 1) := by decide +kernel
theorem dX5_load_15 : decode cX5_load 15 = .ok (.aload_n 0, 1) := by decide +kernel
theorem dX5_load_16 : decode cX5_load 16 = .ok (.getfield 18, 3) := by decide +kernel
theorem dX5_load_19 : decode cX5_load 19 = .ok (.imul, 1) := by decide +kernel
theorem dX5_load_20 : decode cX5_load 20 = .ok (.putfield 22, 3) := by decide +kernel
theorem dX5_load_23 : decode cX5_load 23 = .ok (.aload_n 0, 1) := by decide +kernel
theorem dX5_load_24 : decode cX5_load 24 = .ok (.getfield 9, 3) := by decide +kernel
theorem dX5_load_27 : decode cX5_load 27 = .ok (.iconst 0, 1) := by decide +kernel
theorem dX5_load_28 : decode cX5_load 28 = .ok (.aload_n 0, 1) := by decide +kernel
theorem dX5_load_29 : decode cX5_load 29 = .ok (.getfield 22, 3) := by decide +kernel
theorem dX5_load_32 : decode cX5_load 32 = .ok (.iconst 0, 1) := by decide +kernel
theorem dX5_load_33 : decode cX5_load 33 = .ok (.invokestatic 25, 3) := by decide +kernel
theorem dX5_load_36 : decode cX5_load 36 = .ok (.aload_n 0, 1) := by decide +kernel
theorem dX5_load_37 : decode cX5_load 37 = .ok (.aload_n 1, 1) := by decide +kernel
theorem dX5_load_38 : decode cX5_load 38 = .ok (.iconst 1, 1) := by decide +kernel
theorem dX5_load_39 : decode cX5_load 39 = .ok (.invokevirtual 31, 3) := by decide +kernel
theorem dX5_load_42 : decode cX5_load 42 = .ok (.aload_n 0, 1) := by decide +kernel
theorem dX5_load_43 : decode cX5_load 43 = .ok (.aload_n 2, 1) := by decide +kernel
theorem dX5_load_44 : decode cX5_load 44 = .ok (.aload_n 0, 1) := by decide +kernel
theorem dX5_load_45 : decode cX5_load 45 = .ok (.getfield 18, 3) := by decide +kernel
theorem dX5_load_48 : decode cX5_load 48 = .ok (.iconst 1, 1) := by decide +kernel
theorem dX5_load_49 : decode cX5_load 49 = .ok (.isub, 1) := by decide +kernel
theorem dX5_load_50 : decode cX5_load 50 = .ok (.invokevirtual 31, 3) := by decide +kernel
theorem dX5_load_53 : decode cX5_load 53 = .ok (.iconst 0, 1) := by decide +kernel
theorem dX5_load_54 : decode cX5_load 54 = .ok (.istore 4, 2) := by decide +kernel
theorem dX5_load_56 : decode cX5_load 56 = .ok (.iload 4, 2) := by decide +kernel
theorem dX5_load_58 : decode cX5_load 58 = .ok (.aload_n 0, 1) := by decide +kernel
theorem dX5_load_59 : decode cX5_load 59 = .ok (.getfield 18, 3) := by decide +kernel
theorem dX5_load_62 : decode cX5_load 62 = .ok (.aload_n 0, 1) := by decide +kernel
theorem dX5_load_63 : decode cX5_load 63 = .ok (.getfield 18, 3) := by decide +kernel
theorem dX5_load_66 : decode cX5_load 66 = .ok (.imul, 1) := by decide +kernel
theorem dX5_load_67 : decode cX5_load 67 = .ok (.if_icmp .ge 21, 3) := by decide +kernel
theorem dX5_load_70 : decode cX5_load 70 = .ok (.aload_n 0, 1) := by decide +kernel
theorem dX5_load_71 : decode cX5_load 71 = .ok (.iload 4, 2) := by decide +kernel
theorem dX5_load_73 : decode cX5_load 73 = .ok (.aload_n 0, 1) := by decide +kernel
theorem dX5_load_74 : decode cX5_load 74 = .ok (.getfield 18, 3) := by decide +kernel
theorem dX5_load_77 : decode cX5_load 77 = .ok (.imul, 1) := by decide +kernel
theorem dX5_load_78 : decode cX5_load 78 = .ok (.iconst 1, 1) := by decide +kernel
theorem dX5_load_79 : decode cX5_load 79 = .ok (.invokevirtual 35, 3) := by decide +kernel
theorem dX5_load_82 : decode cX5_load 82 = .ok (.iinc 4 1, 3) := by decide +kernel
theorem dX5_load_85 : decode cX5_load 85 = .ok (.goto (-29), 3) := by decide +kernel
theorem dX5_load_88 : decode cX5_load 88 = .ok (.iconst 0, 1) := by decide +kernel
theorem dX5_load_89 : decode cX5_load 89 = .ok (.istore 4, 2) := by decide +kernel
theorem dX5_load_91 : decode cX5_load 91 = .ok (.iload 4, 2) := by decide +kernel
theorem dX5_load_93 : decode cX5_load 93 = .ok (.aload_n 0, 1) := by decide +kernel
theorem dX5_load_94 : decode cX5_load 94 = .ok (.getfield 18, 3) := by decide +kernel
theorem dX5_load_97 : decode cX5_load 97 = .ok (.aload_n 0, 1) := by decide +kernel
theorem dX5_load_98 : decode cX5_load 98 = .ok (.getfield 18, 3) := by decide +kernel
theorem dX5_load_101 : decode cX5_load 101 = .ok (.imul, 1) := by decide +kernel
theorem dX5_load_102 : decode cX5_load 102 = .ok (.if_icmp .ge 42, 3) := by decide +kernel
theorem dX5_load_105 : decode cX5_load 105 = .ok (.aload_n 0, 1) := by decide +kernel
theorem dX5_load_106 : decode cX5_load 106 = .ok (.iload 4, 2) := by decide +kernel
theorem dX5_load_108 : decode cX5_load 108 = .ok (.aload_n 0, 1) := by decide +kernel
theorem dX5_load_109 : decode cX5_load 109 = .ok (.getfield 18, 3) := by decide +kernel
theorem dX5_load_112 : decode cX5_load 112 = .ok (.idiv, 1) := by decide +kernel
theorem dX5_load_113 : decode cX5_load 113 = .ok (.aload_n 0, 1) := by decide +kernel
theorem dX5_load_114 : decode cX5_load 114 = .ok (.getfield 18, 3) := by decide +kernel
theorem dX5_load_117 : decode cX5_load 117 = .ok (.imul, 1) := by decide +kernel
theorem dX5_load_118 : decode cX5_load 118 = .ok (.aload_n 0, 1) := by decide +kernel
theorem dX5_load_119 : decode cX5_load 119 = .ok (.getfield 18, 3) := by decide +kernel
theorem dX5_load_122 : decode cX5_load 122 = .ok (.imul, 1) := by decide +kernel
theorem dX5_load_123 : decode cX5_load 123 = .ok (.iload 4, 2) := by decide +kernel
theorem dX5_load_125 : decode cX5_load 125 = .ok (.aload_n 0, 1) := by decide +kernel
theorem dX5_load_126 : decode cX5_load 126 = .ok (.getfield 18, 3) := by decide +kernel
theorem dX5_load_129 : decode cX5_load 129 = .ok (.irem, 1) := by decide +kernel
theorem dX5_load_130 : decode cX5_load 130 = .ok (.iadd, 1) := by decide +kernel
theorem dX5_load_131 : decode cX5_load 131 = .ok (.aload_n 0, 1) := by decide +kernel
theorem dX5_load_132 : decode cX5_load 132 = .ok (.getfield 18, 3) := by decide +kernel
theorem dX5_load_135 : decode cX5_load 135 = .ok (.invokevirtual 35, 3) := by decide +kernel
theorem dX5_load_138 : decode cX5_load 138 = .ok (.iinc 4 1, 3) := by decide +kernel
theorem dX5_load_141 : decode cX5_load 141 = .ok (.goto (-50), 3) := by decide +kernel
theorem dX5_load_144 : decode cX5_load 144 = .ok (.iconst 0, 1) := by decide +kernel
theorem dX5_load_145 : decode cX5_load 145 = .ok (.istore 4, 2) := by decide +kernel
theorem dX5_load_147 : decode cX5_load 147 = .ok (.iload 4, 2) := by decide +kernel
theorem dX5_load_149 : decode cX5_load 149 = .ok (.aload_n 0, 1) := by decide +kernel
theorem dX5_load_150 : decode cX5_load 150 = .ok (.getfield 18, 3) := by decide +kernel
theorem dX5_load_153 : decode cX5_load 153 = .ok (.aload_n 0, 1) := by decide +kernel
theorem dX5_load_154 : decode cX5_load 154 = .ok (.getfield 18, 3) := by decide +kernel
theorem dX5_load_157 : decode cX5_load 157 = .ok (.imul, 1) := by decide +kernel
theorem dX5_load_158 : decode cX5_load 158 = .ok (.if_icmp .ge 24, 3) := by decide +kernel
theorem dX5_load_161 : decode cX5_load 161 = .ok (.aload_n 0, 1) := by decide +kernel
theorem dX5_load_162 : decode cX5_load 162 = .ok (.iload 4, 2) := by decide +kernel
theorem dX5_load_164 : decode cX5_load 164 = .ok (.aload_n 0, 1) := by decide +kernel
theorem dX5_load_165 : decode cX5_load 165 = .ok (.getfield 18, 3) := by decide +kernel
theorem dX5_load_168 : decode cX5_load 168 = .ok (.aload_n 0, 1) := by decide +kernel
theorem dX5_load_169 : decode cX5_load 169 = .ok (.getfield 18, 3) := by decide +kernel
theorem dX5_load_172 : decode cX5_load 172 = .ok (.imul, 1) := by decide +kernel
theorem dX5_load_173 : decode cX5_load 173 = .ok (.invokevirtual 35, 3) := by decide +kernel
theorem dX5_load_176 : decode cX5_load 176 = .ok (.iinc 4 1, 3) := by decide +kernel
theorem dX5_load_179 : decode cX5_load 179 = .ok (.goto (-32), 3) := by decide +kernel
theorem dX5_load_182 : decode cX5_load 182 = .ok (.return_, 1) := by decide +kernel
theorem dX5_addReduced_0 : decode cX5_addReduced 0 = .ok (.iconst 0, 1) := by decide +kernel
theorem dX5_addReduced_1 : decode cX5_addReduced 1 = .ok (.istore_n 3, 1) := by decide +kernel
theorem dX5_addReduced_2 : decode cX5_addReduced 2 = .ok (.iload_n 3, 1) := by decide +kernel
theorem dX5_addReduced_3 : decode cX5_addReduced 3 = .ok (.aload_n 1, 1) := by decide +kernel
theorem dX5_addReduced_4 : decode cX5_addReduced 4 = .ok (.getfield 39, 3) := by decide +kernel
theorem dX5_addReduced_7 : decode cX5_addReduced 7 = .ok (.if_icmp .ge 114, 3) := by decide +kernel
theorem dX5_addReduced_10 : decode cX5_addReduced 10 = .ok (.aload_n 1, 1) := by decide +kernel
theorem dX5_addReduced_11 : decode cX5_addReduced 11 = .ok (.getfield 44, 3) := by decide +kernel
theorem dX5_addReduced_14 : decode cX5_addReduced 14 = .ok (.iload_n 3, 1) := by decide +kernel
theorem dX5_addReduced_15 : decode cX5_addReduced 15 = .ok (.iaload, 1) := by decide +kernel
theorem dX5_addReduced_16 : decode cX5_addReduced 16 = .ok (.iconst 0, 1) := by decide +kernel
theorem dX5_addReduced_17 : decode cX5_addReduced 17 = .ok (.invokestatic 47, 3) := by decide +kernel
theorem dX5_addReduced_20 : decode cX5_addReduced 20 = .ok (.aload_n 0, 1) := by decide +kernel
theorem dX5_addReduced_21 : decode cX5_addReduced 21 = .ok (.getfield 18, 3) := by decide +kernel
theorem dX5_addReduced_24 : decode cX5_addReduced 24 = .ok (.invokestatic 51, 3) := by decide +kernel
theorem dX5_addReduced_27 : decode cX5_addReduced 27 = .ok (.istore 4, 2) := by decide +kernel
theorem dX5_addReduced_29 : decode cX5_addReduced 29 = .ok (.aload_n 1, 1) := by decide +kernel
theorem dX5_addReduced_30 : decode cX5_addReduced 30 = .ok (.getfield 44, 3) := by decide +kernel
theorem dX5_addReduced_33 : decode cX5_addReduced 33 = .ok (.iload_n 3, 1) := by decide +kernel
theorem dX5_addReduced_34 : decode cX5_addReduced 34 = .ok (.iaload, 1) := by decide +kernel
theorem dX5_addReduced_35 : decode cX5_addReduced 35 = .ok (.iconst 1, 1) := by decide +kernel
theorem dX5_addReduced_36 : decode cX5_addReduced 36 = .ok (.invokestatic 47, 3) := by decide +kernel
theorem dX5_addReduced_39 : decode cX5_addReduced 39 = .ok (.aload_n 0, 1) := by decide +kernel
theorem dX5_addReduced_40 : decode cX5_addReduced 40 = .ok (.getfield 18, 3) := by decide +kernel
theorem dX5_addReduced_43 : decode cX5_addReduced 43 = .ok (.invokestatic 51, 3) := by decide +kernel
theorem dX5_addReduced_46 : decode cX5_addReduced 46 = .ok (.istore 5, 2) := by decide +kernel
theorem dX5_addReduced_48 : decode cX5_addReduced 48 = .ok (.aload_n 1, 1) := by decide +kernel
theorem dX5_addReduced_49 : decode cX5_addReduced 49 = .ok (.getfield 44, 3) := by decide +kernel
theorem dX5_addReduced_52 : decode cX5_addReduced 52 = .ok (.iload_n 3, 1) := by decide +kernel
theorem dX5_addReduced_53 : decode cX5_addReduced 53 = .ok (.iaload, 1) := by decide +kernel
theorem dX5_addReduced_54 : decode cX5_addReduced 54 = .ok (.iconst 2, 1) := by decide +kernel
theorem dX5_addReduced_55 : decode cX5_addReduced 55 = .ok (.invokestatic 47, 3) := by decide +kernel
theorem dX5_addReduced_58 : decode cX5_addReduced 58 = .ok (.aload_n 0, 1) := by decide +kernel
theorem dX5_addReduced_59 : decode cX5_addReduced 59 = .ok (.getfield 18, 3) := by decide +kernel
theorem dX5_addReduced_62 : decode cX5_addReduced 62 = .ok (.invokestatic 51, 3) := by decide +kernel
theorem dX5_addReduced_65 : decode cX5_addReduced 65 = .ok (.istore 6, 2) := by decide +kernel
theorem dX5_addReduced_67 : decode cX5_addReduced 67 = .ok (.iload 4, 2) := by decide +kernel
theorem dX5_addReduced_69 : decode cX5_addReduced 69 = .ok (.aload_n 0, 1) := by decide +kernel
theorem dX5_addReduced_70 : decode cX5_addReduced 70 = .ok (.getfield 18, 3) := by decide +kernel
theorem dX5_addReduced_73 : decode cX5_addReduced 73 = .ok (.imul, 1) := by decide +kernel
theorem dX5_addReduced_74 : decode cX5_addReduced 74 = .ok (.iload 5, 2) := by decide +kernel
theorem dX5_addReduced_76 : decode cX5_addReduced 76 = .ok (.iadd, 1) := by decide +kernel
theorem dX5_addReduced_77 : decode cX5_addReduced 77 = .ok (.aload_n 0, 1) := by decide +kernel
theorem dX5_addReduced_78 : decode cX5_addReduced 78 = .ok (.getfield 18, 3) := by decide +kernel
theorem dX5_addReduced_81 : decode cX5_addReduced 81 = .ok (.imul, 1) := by decide +kernel
theorem dX5_addReduced_82 : decode cX5_addReduced 82 = .ok (.iload 6, 2) := by decide +kernel
theorem dX5_addReduced_84 : decode cX5_addReduced 84 = .ok (.iadd, 1) := by decide +kernel
theorem dX5_addReduced_85 : decode cX5_addReduced 85 = .ok (.istore 7, 2) := by decide +kernel
theorem dX5_addReduced_87 : decode cX5_addReduced 87 = .ok (.aload_n 0, 1) := by decide +kernel
theorem dX5_addReduced_88 : decode cX5_addReduced 88 = .ok (.getfield 9, 3) := by decide +kernel
theorem dX5_addReduced_91 : decode cX5_addReduced 91 = .ok (.iload 7, 2) := by decide +kernel
theorem dX5_addReduced_93 : decode cX5_addReduced 93 = .ok (.aload_n 0, 1) := by decide +kernel
theorem dX5_addReduced_94 : decode cX5_addReduced 94 = .ok (.getfield 9, 3) := by decide +kernel
theorem dX5_addReduced_97 : decode cX5_addReduced 97 = .ok (.iload 7, 2) := by decide +kernel
theorem dX5_addReduced_99 : decode cX5_addReduced 99 = .ok (.iaload, 1) := by decide +kernel
theorem dX5_addReduced_100 : decode cX5_addReduced 100 = .ok (.iload_n 2, 1) := by decide +kernel
theorem dX5_addReduced_101 : decode cX5_addReduced 101 = .ok (.aload_n 1, 1) := by decide +kernel
theorem dX5_addReduced_102 : decode cX5_addReduced 102 = .ok (.getfield 56, 3) := by decide +kernel
theorem dX5_addReduced_105 : decode cX5_addReduced 105 = .ok (.iload_n 3, 1) := by decide +kernel
theorem dX5_addReduced_106 : decode cX5_addReduced 106 = .ok (.iaload, 1) := by decide +kernel
theorem dX5_addReduced_107 : decode cX5_addReduced 107 = .ok (.imul, 1) := by decide +kernel
theorem dX5_addReduced_108 : decode cX5_addReduced 108 = .ok (.iadd, 1) := by decide +kernel
theorem dX5_addReduced_109 : decode cX5_addReduced 109 = .ok (.aload_n 0, 1) := by decide +kernel
theorem dX5_addReduced_110 : decode cX5_addReduced 110 = .ok (.getfield 18, 3) := by decide +kernel
theorem dX5_addReduced_113 : decode cX5_addReduced 113 = .ok (.irem, 1) := by decide +kernel
theorem dX5_addReduced_114 : decode cX5_addReduced 114 = .ok (.iastore, 1) := by decide +kernel
theorem dX5_addReduced_115 : decode cX5_addReduced 115 = .ok (.iinc 3 1, 3) := by decide +kernel
theorem dX5_addReduced_118 : decode cX5_addReduced 118 = .ok (.goto (-116), 3) := by decide +kernel
theorem dX5_addReduced_121 : decode cX5_addReduced 121 = .ok (.return_, 1) := by decide +kernel
theorem dX5_spread_0 : decode cX5_spread 0 = .ok (.iconst (-1), 1) := by decide +kernel
theorem dX5_spread_1 : decode cX5_spread 1 = .ok (.istore_n 3, 1) := by decide +kernel
theorem dX5_spread_2 : decode cX5_spread 2 = .ok (.iconst 0, 1) := by decide +kernel
theorem dX5_spread_3 : decode cX5_spread 3 = .ok (.istore 4, 2) := by decide +kernel
theorem dX5_spread_5 : decode cX5_spread 5 = .ok (.iload 4, 2) := by decide +kernel
theorem dX5_spread_7 : decode cX5_spread 7 = .ok (.aload_n 0, 1) := by decide +kernel
theorem dX5_spread_8 : decode cX5_spread 8 = .ok (.getfield 18, 3) := by decide +kernel
theorem dX5_spread_11 : decode cX5_spread 11 = .ok (.if_icmp .ge 44, 3) := by decide +kernel
theorem dX5_spread_14 : decode cX5_spread 14 = .ok (.aload_n 0, 1) := by decide +kernel
theorem dX5_spread_15 : decode cX5_spread 15 = .ok (.getfield 15, 3) := by decide +kernel
theorem dX5_spread_18 : decode cX5_spread 18 = .ok (.iload 4, 2) := by decide +kernel
theorem dX5_spread_20 : decode cX5_spread 20 = .ok (.aload_n 0, 1) := by decide +kernel
theorem dX5_spread_21 : decode cX5_spread 21 = .ok (.getfield 9, 3) := by decide +kernel
theorem dX5_spread_24 : decode cX5_spread 24 = .ok (.iload_n 1, 1) := by decide +kernel
theorem dX5_spread_25 : decode cX5_spread 25 = .ok (.iload 4, 2) := by decide +kernel
theorem dX5_spread_27 : decode cX5_spread 27 = .ok (.iload_n 2, 1) := by decide +kernel
theorem dX5_spread_28 : decode cX5_spread 28 = .ok (.imul, 1) := by decide +kernel
theorem dX5_spread_29 : decode cX5_spread 29 = .ok (.iadd, 1) := by decide +kernel
theorem dX5_spread_30 : decode cX5_spread 30 = .ok (.iaload, 1) := by decide +kernel
theorem dX5_spread_31 : decode cX5_spread 31 = .ok (.iastore, 1) := by decide +kernel
theorem dX5_spread_32 : decode cX5_spread 32 = .ok (.aload_n 0, 1) := by decide +kernel
theorem dX5_spread_33 : decode cX5_spread 33 = .ok (.getfield 15, 3) := by decide +kernel
theorem dX5_spread_36 : decode cX5_spread 36 = .ok (.iload 4, 2) := by decide +kernel
theorem dX5_spread_38 : decode cX5_spread 38 = .ok (.iaload, 1) := by decide +kernel
theorem dX5_spread_39 : decode cX5_spread 39 = .ok (.ifCond .ne 7, 3) := by decide +kernel
theorem dX5_spread_42 : decode cX5_spread 42 = .ok (.iload_n 3, 1) := by decide +kernel
theorem dX5_spread_43 : decode cX5_spread 43 = .ok (.goto 5, 3) := by decide +kernel
theorem dX5_spread_46 : decode cX5_spread 46 = .ok (.iload 4, 2) := by decide +kernel
theorem dX5_spread_48 : decode cX5_spread 48 = .ok (.istore_n 3, 1) := by decide +kernel
theorem dX5_spread_49 : decode cX5_spread 49 = .ok (.iinc 4 1, 3) := by decide +kernel
theorem dX5_spread_52 : decode cX5_spread 52 = .ok (.goto (-47), 3) := by decide +kernel
theorem dX5_spread_55 : decode cX5_spread 55 = .ok (.iload_n 3, 1) := by decide +kernel
theorem dX5_spread_56 : decode cX5_spread 56 = .ok (.ifCond .gt 16, 3) := by decide +kernel
theorem dX5_spread_59 : decode cX5_spread 59 = .ok (.aload_n 0, 1) := by decide +kernel
theorem dX5_spread_60 : decode cX5_spread 60 = .ok (.iload_n 1, 1) := by decide +kernel
theorem dX5_spread_61 : decode cX5_spread 61 = .ok (.iload_n 2, 1) := by decide +kernel
theorem dX5_spread_62 : decode cX5_spread 62 = .ok (.aload_n 0, 1) := by decide +kernel
theorem dX5_spread_63 : decode cX5_spread 63 = .ok (.getfield 15, 3) := by decide +kernel
theorem dX5_spread_66 : decode cX5_spread 66 = .ok (.iconst 0, 1) := by decide +kernel
theorem dX5_spread_67 : decode cX5_spread 67 = .ok (.iaload, 1) := by decide +kernel
theorem dX5_spread_68 : decode cX5_spread 68 = .ok (.invokevirtual 59, 3) := by decide +kernel
theorem dX5_spread_71 : decode cX5_spread 71 = .ok (.return_, 1) := by decide +kernel
theorem dX5_spread_72 : decode cX5_spread 72 = .ok (.iconst 0, 1) := by decide +kernel
theorem dX5_spread_73 : decode cX5_spread 73 = .ok (.istore 4, 2) := by decide +kernel
theorem dX5_spread_75 : decode cX5_spread 75 = .ok (.iload 4, 2) := by decide +kernel
theorem dX5_spread_77 : decode cX5_spread 77 = .ok (.aload_n 0, 1) := by decide +kernel
theorem dX5_spread_78 : decode cX5_spread 78 = .ok (.getfield 18, 3) := by decide +kernel
theorem dX5_spread_81 : decode cX5_spread 81 = .ok (.if_icmp .ge 59, 3) := by decide +kernel
theorem dX5_spread_84 : decode cX5_spread 84 = .ok (.iconst 0, 1) := by decide +kernel
theorem dX5_spread_85 : decode cX5_spread 85 = .ok (.istore 5, 2) := by decide +kernel
theorem dX5_spread_87 : decode cX5_spread 87 = .ok (.iload_n 3, 1) := by decide +kernel
theorem dX5_spread_88 : decode cX5_spread 88 = .ok (.istore 6, 2) := by decide +kernel
theorem dX5_spread_90 : decode cX5_spread 90 = .ok (.iload 6, 2) := by decide +kernel
theorem dX5_spread_92 : decode cX5_spread 92 = .ok (.ifCond .lt 29, 3) := by decide +kernel
theorem dX5_spread_95 : decode cX5_spread 95 = .ok (.iload 5, 2) := by decide +kernel
theorem dX5_spread_97 : decode cX5_spread 97 = .ok (.iload 4, 2) := by decide +kernel
theorem dX5_spread_99 : decode cX5_spread 99 = .ok (.imul, 1) := by decide +kernel
theorem dX5_spread_100 : decode cX5_spread 100 = .ok (.aload_n 0, 1) := by decide +kernel
theorem dX5_spread_101 : decode cX5_spread 101 = .ok (.getfield 15, 3) := by decide +kernel
theorem dX5_spread_104 : decode cX5_spread 104 = .ok (.iload 6, 2) := by decide +kernel
theorem dX5_spread_106 : decode cX5_spread 106 = .ok (.iaload, 1) := by decide +kernel
theorem dX5_spread_107 : decode cX5_spread 107 = .ok (.iadd, 1) := by decide +kernel
theorem dX5_spread_108 : decode cX5_spread 108 = .ok (.aload_n 0, 1) := by decide +kernel
theorem dX5_spread_109 : decode cX5_spread 109 = .ok (.getfield 18, 3) := by decide +kernel
theorem dX5_spread_112 : decode cX5_spread 112 = .ok (.irem, 1) := by decide +kernel
theorem dX5_spread_113 : decode cX5_spread 113 = .ok (.istore 5, 2) := by decide +kernel
theorem dX5_spread_115 : decode cX5_spread 115 = .ok (.iinc 6 (-1), 3) := by decide +kernel
theorem dX5_spread_118 : decode cX5_spread 118 = .ok (.goto (-28), 3) := by decide +kernel
theorem dX5_spread_121 : decode cX5_spread 121 = .ok (.aload_n 0, 1) := by decide +kernel
theorem dX5_spread_122 : decode cX5_spread 122 = .ok (.getfield 9, 3) := by decide +kernel
theorem dX5_spread_125 : decode cX5_spread 125 = .ok (.iload_n 1, 1) := by decide +kernel
theorem dX5_spread_126 : decode cX5_spread 126 = .ok (.iload 4, 2) := by decide +kernel
theorem dX5_spread_128 : decode cX5_spread 128 = .ok (.iload_n 2, 1) := by decide +kernel
theorem dX5_spread_129 : decode cX5_spread 129 = .ok (.imul, 1) := by decide +kernel
theorem dX5_spread_130 : decode cX5_spread 130 = .ok (.iadd, 1) := by decide +kernel
theorem dX5_spread_131 : decode cX5_spread 131 = .ok (.iload 5, 2) := by decide +kernel
theorem dX5_spread_133 : decode cX5_spread 133 = .ok (.iastore, 1) := by decide +kernel
theorem dX5_spread_134 : decode cX5_spread 134 = .ok (.iinc 4 1, 3) := by decide +kernel
theorem dX5_spread_137 : decode cX5_spread 137 = .ok (.goto (-62), 3) := by decide +kernel
theorem dX5_spread_140 : decode cX5_spread 140 = .ok (.return_, 1) := by decide +kernel
theorem dX5_fillRow_0 : decode cX5_fillRow 0 = .ok (.iconst 0, 1) := by decide +kernel
theorem dX5_fillRow_1 : decode cX5_fillRow 1 = .ok (.istore 4, 2) := by decide +kernel
theorem dX5_fillRow_3 : decode cX5_fillRow 3 = .ok (.iload 4, 2) := by decide +kernel
theorem dX5_fillRow_5 : decode cX5_fillRow 5 = .ok (.aload_n 0, 1) := by decide +kernel
theorem dX5_fillRow_6 : decode cX5_fillRow 6 = .ok (.getfield 18, 3) := by decide +kernel
theorem dX5_fillRow_9 : decode cX5_fillRow 9 = .ok (.if_icmp .ge 21, 3) := by decide +kernel
theorem dX5_fillRow_12 : decode cX5_fillRow 12 = .ok (.aload_n 0, 1) := by decide +kernel
theorem dX5_fillRow_13 : decode cX5_fillRow 13 = .ok (.getfield 9, 3) := by decide +kernel
theorem dX5_fillRow_16 : decode cX5_fillRow 16 = .ok (.iload_n 1, 1) := by decide +kernel
theorem dX5_fillRow_17 : decode cX5_fillRow 17 = .ok (.iload 4, 2) := by decide +kernel
theorem dX5_fillRow_19 : decode cX5_fillRow 19 = .ok (.iload_n 2, 1) := by decide +kernel
theorem dX5_fillRow_20 : decode cX5_fillRow 20 = .ok (.imul, 1) := by decide +kernel
theorem dX5_fillRow_21 : decode cX5_fillRow 21 = .ok (.iadd, 1) := by decide +kernel
theorem dX5_fillRow_22 : decode cX5_fillRow 22 = .ok (.iload_n 3, 1) := by decide +kernel
theorem dX5_fillRow_23 : decode cX5_fillRow 23 = .ok (.iastore, 1) := by decide +kernel
theorem dX5_fillRow_24 : decode cX5_fillRow 24 = .ok (.iinc 4 1, 3) := by decide +kernel
theorem dX5_fillRow_27 : decode cX5_fillRow 27 = .ok (.goto (-24), 3) := by decide +kernel
theorem dX5_fillRow_30 : decode cX5_fillRow 30 = .ok (.return_, 1) := by decide +kernel
theorem dX5_zeros_0 : decode cX5_zeros 0 = .ok (.iconst 0, 1) := by decide +kernel
theorem dX5_zeros_1 : decode cX5_zeros 1 = .ok (.istore_n 1, 1) := by decide +kernel
theorem dX5_zeros_2 : decode cX5_zeros 2 = .ok (.iconst 0, 1) := by decide +kernel
theorem dX5_zeros_3 : decode cX5_zeros 3 = .ok (.istore_n 2, 1) := by decide +kernel
theorem dX5_zeros_4 : decode cX5_zeros 4 = .ok (.iload_n 2, 1) := by decide +kernel
theorem dX5_zeros_5 : decode cX5_zeros 5 = .ok (.aload_n 0, 1) := by decide +kernel
theorem dX5_zeros_6 : decode cX5_zeros 6 = .ok (.getfield 22, 3) := by decide +kernel
theorem dX5_zeros_9 : decode cX5_zeros 9 = .ok (.if_icmp .ge 26, 3) := by decide +kernel
theorem dX5_zeros_12 : decode cX5_zeros 12 = .ok (.iload_n 1, 1) := by decide +kernel
theorem dX5_zeros_13 : decode cX5_zeros 13 = .ok (.aload_n 0, 1) := by decide +kernel
theorem dX5_zeros_14 : decode cX5_zeros 14 = .ok (.getfield 9, 3) := by decide +kernel
theorem dX5_zeros_17 : decode cX5_zeros 17 = .ok (.iload_n 2, 1) := by decide +kernel
theorem dX5_zeros_18 : decode cX5_zeros 18 = .ok (.iaload, 1) := by decide +kernel
theorem dX5_zeros_19 : decode cX5_zeros 19 = .ok (.ifCond .ne 7, 3) := by decide +kernel
theorem dX5_zeros_22 : decode cX5_zeros 22 = .ok (.iconst 1, 1) := by decide +kernel
theorem dX5_zeros_23 : decode cX5_zeros 23 = .ok (.goto 4, 3) := by decide +kernel
theorem dX5_zeros_26 : decode cX5_zeros 26 = .ok (.iconst 0, 1) := by decide +kernel
theorem dX5_zeros_27 : decode cX5_zeros 27 = .ok (.iadd, 1) := by decide +kernel
theorem dX5_zeros_28 : decode cX5_zeros 28 = .ok (.istore_n 1, 1) := by decide +kernel
theorem dX5_zeros_29 : decode cX5_zeros 29 = .ok (.iinc 2 1, 3) := by decide +kernel
theorem dX5_zeros_32 : decode cX5_zeros 32 = .ok (.goto (-28), 3) := by decide +kernel
theorem dX5_zeros_35 : decode cX5_zeros 35 = .ok (.iload_n 1, 1) := by decide +kernel
theorem dX5_zeros_36 : decode cX5_zeros 36 = .ok (.ireturn, 1) := by decide +kernel
theorem dX5_firstNotZero_0 : decode cX5_firstNotZero 0 = .ok (.iconst 0, 1) := by decide +kernel
theorem dX5_firstNotZero_1 : decode cX5_firstNotZero 1 = .ok (.istore_n 1, 1) := by decide +kernel
theorem dX5_firstNotZero_2 : decode cX5_firstNotZero 2 = .ok (.iload_n 1, 1) := by decide +kernel
theorem dX5_firstNotZero_3 : decode cX5_firstNotZero 3 = .ok (.aload_n 0, 1) := by decide +kernel
theorem dX5_firstNotZero_4 : decode cX5_firstNotZero 4 = .ok (.getfield 22, 3) := by decide +kernel
theorem dX5_firstNotZero_7 : decode cX5_firstNotZero 7 = .ok (.if_icmp .ge 20, 3) := by decide +kernel
theorem dX5_firstNotZero_10 : decode cX5_firstNotZero 10 = .ok (.aload_n 0, 1) := by decide +kernel
theorem dX5_firstNotZero_11 : decode cX5_firstNotZero 11 = .ok (.getfield 9, 3) := by decide +kernel
theorem dX5_firstNotZero_14 : decode cX5_firstNotZero 14 = .ok (.iload_n 1, 1) := by decide +kernel
theorem dX5_firstNotZero_15 : decode cX5_firstNotZero 15 = .ok (.iaload, 1) := by decide +kernel
theorem dX5_firstNotZero_16 : decode cX5_firstNotZero 16 = .ok (.ifCond .eq 5, 3) := by decide +kernel
theorem dX5_firstNotZero_19 : decode cX5_firstNotZero 19 = .ok (.iload_n 1, 1) := by decide +kernel
theorem dX5_firstNotZero_20 : decode cX5_firstNotZero 20 = .ok (.ireturn, 1) := by decide +kernel
theorem dX5_firstNotZero_21 : decode cX5_firstNotZero 21 = .ok (.iinc 1 1, 3) := by decide +kernel
theorem dX5_firstNotZero_24 : decode cX5_firstNotZero 24 = .ok (.goto (-22), 3) := by decide +kernel
theorem dX5_firstNotZero_27 : decode cX5_firstNotZero 27 = .ok (.iconst (-1), 1) := by decide +kernel
theorem dX5_firstNotZero_28 : decode cX5_firstNotZero 28 = .ok (.ireturn, 1) := by decide +kernel
theorem dX5_stride_0 : decode cX5_stride 0 = .ok (.iload_n 1, 1) := by decide +kernel
theorem dX5_stride_1 : decode cX5_stride 1 = .ok (.ifCond .ne 15, 3) := by decide +kernel
theorem dX5_stride_4 : decode cX5_stride 4 = .ok (.aload_n 0, 1) := by decide +kernel
theorem dX5_stride_5 : decode cX5_stride 5 = .ok (.getfield 18, 3) := by decide +kernel
theorem dX5_stride_8 : decode cX5_stride 8 = .ok (.aload_n 0, 1) := by decide +kernel
theorem dX5_stride_9 : decode cX5_stride 9 = .ok (.getfield 18, 3) := by decide +kernel
theorem dX5_stride_12 : decode cX5_stride 12 = .ok (.imul, 1) := by decide +kernel
theorem dX5_stride_13 : decode cX5_stride 13 = .ok (.goto 16, 3) := by decide +kernel
theorem dX5_stride_16 : decode cX5_stride 16 = .ok (.iload_n 1, 1) := by decide +kernel
theorem dX5_stride_17 : decode cX5_stride 17 = .ok (.iconst 1, 1) := by decide +kernel
theorem dX5_stride_18 : decode cX5_stride 18 = .ok (.if_icmp .ne 10, 3) := by decide +kernel
theorem dX5_stride_21 : decode cX5_stride 21 = .ok (.aload_n 0, 1) := by decide +kernel
theorem dX5_stride_22 : decode cX5_stride 22 = .ok (.getfield 18, 3) := by decide +kernel
theorem dX5_stride_25 : decode cX5_stride 25 = .ok (.goto 4, 3) := by decide +kernel
theorem dX5_stride_28 : decode cX5_stride 28 = .ok (.iconst 1, 1) := by decide +kernel
theorem dX5_stride_29 : decode cX5_stride 29 = .ok (.ireturn, 1) := by decide +kernel
theorem dX5_isZeroOn_0 : decode cX5_isZeroOn 0 = .ok (.aload_n 0, 1) := by decide +kernel
theorem dX5_isZeroOn_1 : decode cX5_isZeroOn 1 = .ok (.aload_n 1, 1) := by decide +kernel
theorem dX5_isZeroOn_2 : decode cX5_isZeroOn 2 = .ok (.getfield 63, 3) := by decide +kernel
theorem dX5_isZeroOn_5 : decode cX5_isZeroOn 5 = .ok (.invokevirtual 68, 3) := by decide +kernel
theorem dX5_isZeroOn_8 : decode cX5_isZeroOn 8 = .ok (.istore_n 2, 1) := by decide +kernel
theorem dX5_isZeroOn_9 : decode cX5_isZeroOn 9 = .ok (.aload_n 0, 1) := by decide +kernel
theorem dX5_isZeroOn_10 : decode cX5_isZeroOn 10 = .ok (.aload_n 1, 1) := by decide +kernel
theorem dX5_isZeroOn_11 : decode cX5_isZeroOn 11 = .ok (.getfield 72, 3) := by decide +kernel
theorem dX5_isZeroOn_14 : decode cX5_isZeroOn 14 = .ok (.invokevirtual 68, 3) := by decide +kernel
theorem dX5_isZeroOn_17 : decode cX5_isZeroOn 17 = .ok (.istore_n 3, 1) := by decide +kernel
theorem dX5_isZeroOn_18 : decode cX5_isZeroOn 18 = .ok (.aload_n 0, 1) := by decide +kernel
theorem dX5_isZeroOn_19 : decode cX5_isZeroOn 19 = .ok (.aload_n 1, 1) := by decide +kernel
theorem dX5_isZeroOn_20 : decode cX5_isZeroOn 20 = .ok (.getfield 75, 3) := by decide +kernel
theorem dX5_isZeroOn_23 : decode cX5_isZeroOn 23 = .ok (.invokevirtual 68, 3) := by decide +kernel
theorem dX5_isZeroOn_26 : decode cX5_isZeroOn 26 = .ok (.istore 4, 2) := by decide +kernel
theorem dX5_isZeroOn_28 : decode cX5_isZeroOn 28 = .ok (.iconst 0, 1) := by decide +kernel
theorem dX5_isZeroOn_29 : decode cX5_isZeroOn 29 = .ok (.istore 5, 2) := by decide +kernel
theorem dX5_isZeroOn_31 : decode cX5_isZeroOn 31 = .ok (.iload 5, 2) := by decide +kernel
theorem dX5_isZeroOn_33 : decode cX5_isZeroOn 33 = .ok (.aload_n 0, 1) := by decide +kernel
theorem dX5_isZeroOn_34 : decode cX5_isZeroOn 34 = .ok (.getfield 18, 3) := by decide +kernel
theorem dX5_isZeroOn_37 : decode cX5_isZeroOn 37 = .ok (.if_icmp .ge 97, 3) := by decide +kernel
theorem dX5_isZeroOn_40 : decode cX5_isZeroOn 40 = .ok (.iconst 0, 1) := by decide +kernel
theorem dX5_isZeroOn_41 : decode cX5_isZeroOn 41 = .ok (.istore 6, 2) := by decide +kernel
theorem dX5_isZeroOn_43 : decode cX5_isZeroOn 43 = .ok (.iload 6, 2) := by decide +kernel
theorem dX5_isZeroOn_45 : decode cX5_isZeroOn 45 = .ok (.aload_n 0, 1) := by decide +kernel
theorem dX5_isZeroOn_46 : decode cX5_isZeroOn 46 = .ok (.getfield 18, 3) := by decide +kernel
theorem dX5_isZeroOn_49 : decode cX5_isZeroOn 49 = .ok (.if_icmp .ge 79, 3) := by decide +kernel
theorem dX5_isZeroOn_52 : decode cX5_isZeroOn 52 = .ok (.iload 5, 2) := by decide +kernel
theorem dX5_isZeroOn_54 : decode cX5_isZeroOn 54 = .ok (.aload_n 1, 1) := by decide +kernel
theorem dX5_isZeroOn_55 : decode cX5_isZeroOn 55 = .ok (.getfield 78, 3) := by decide +kernel
theorem dX5_isZeroOn_58 : decode cX5_isZeroOn 58 = .ok (.imul, 1) := by decide +kernel
theorem dX5_isZeroOn_59 : decode cX5_isZeroOn 59 = .ok (.iload 6, 2) := by decide +kernel
theorem dX5_isZeroOn_61 : decode cX5_isZeroOn 61 = .ok (.aload_n 1, 1) := by decide +kernel
theorem dX5_isZeroOn_62 : decode cX5_isZeroOn 62 = .ok (.getfield 81, 3) := by decide +kernel
theorem dX5_isZeroOn_65 : decode cX5_isZeroOn 65 = .ok (.imul, 1) := by decide +kernel
theorem dX5_isZeroOn_66 : decode cX5_isZeroOn 66 = .ok (.iadd, 1) := by decide +kernel
theorem dX5_isZeroOn_67 : decode cX5_isZeroOn 67 = .ok (.aload_n 1, 1) := by decide +kernel
theorem dX5_isZeroOn_68 : decode cX5_isZeroOn 68 = .ok (.getfield 84, 3) := by decide +kernel
theorem dX5_isZeroOn_71 : decode cX5_isZeroOn 71 = .ok (.iadd, 1) := by decide +kernel
theorem dX5_isZeroOn_72 : decode cX5_isZeroOn 72 = .ok (.aload_n 0, 1) := by decide +kernel
theorem dX5_isZeroOn_73 : decode cX5_isZeroOn 73 = .ok (.getfield 18, 3) := by decide +kernel
theorem dX5_isZeroOn_76 : decode cX5_isZeroOn 76 = .ok (.irem, 1) := by decide +kernel
theorem dX5_isZeroOn_77 : decode cX5_isZeroOn 77 = .ok (.istore 7, 2) := by decide +kernel
theorem dX5_isZeroOn_79 : decode cX5_isZeroOn 79 = .ok (.iload 7, 2) := by decide +kernel
theorem dX5_isZeroOn_81 : decode cX5_isZeroOn 81 = .ok (.ifCond .ne 7, 3) := by decide +kernel
theorem dX5_isZeroOn_84 : decode cX5_isZeroOn 84 = .ok (.iconst 0, 1) := by decide +kernel
theorem dX5_isZeroOn_85 : decode cX5_isZeroOn 85 = .ok (.goto 10, 3) := by decide +kernel
theorem dX5_isZeroOn_88 : decode cX5_isZeroOn 88 = .ok (.aload_n 0, 1) := by decide +kernel
theorem dX5_isZeroOn_89 : decode cX5_isZeroOn 89 = .ok (.getfield 18, 3) := by decide +kernel
theorem dX5_isZeroOn_92 : decode cX5_isZeroOn 92 = .ok (.iload 7, 2) := by decide +kernel
theorem dX5_isZeroOn_94 : decode cX5_isZeroOn 94 = .ok (.isub, 1) := by decide +kernel
theorem dX5_isZeroOn_95 : decode cX5_isZeroOn 95 = .ok (.istore 8, 2) := by decide +kernel
theorem dX5_isZeroOn_97 : decode cX5_isZeroOn 97 = .ok (.aload_n 0, 1) := by decide +kernel
theorem dX5_isZeroOn_98 : decode cX5_isZeroOn 98 = .ok (.getfield 9, 3) := by decide +kernel
theorem dX5_isZeroOn_101 : decode cX5_isZeroOn 101 = .ok (.iload 8, 2) := by decide +kernel
theorem dX5_isZeroOn_103 : decode cX5_isZeroOn 103 = .ok (.iload_n 2, 1) := by decide +kernel
theorem dX5_isZeroOn_104 : decode cX5_isZeroOn 104 = .ok (.imul, 1) := by decide +kernel
theorem dX5_isZeroOn_105 : decode cX5_isZeroOn 105 = .ok (.iload 5, 2) := by decide +kernel
theorem dX5_isZeroOn_107 : decode cX5_isZeroOn 107 = .ok (.iload_n 3, 1) := by decide +kernel
theorem dX5_isZeroOn_108 : decode cX5_isZeroOn 108 = .ok (.imul, 1) := by decide +kernel
theorem dX5_isZeroOn_109 : decode cX5_isZeroOn 109 = .ok (.iadd, 1) := by decide +kernel
theorem dX5_isZeroOn_110 : decode cX5_isZeroOn 110 = .ok (.iload 6, 2) := by decide +kernel
theorem dX5_isZeroOn_112 : decode cX5_isZeroOn 112 = .ok (.iload 4, 2) := by decide +kernel
theorem dX5_isZeroOn_114 : decode cX5_isZeroOn 114 = .ok (.imul, 1) := by decide +kernel
theorem dX5_isZeroOn_115 : decode cX5_isZeroOn 115 = .ok (.iadd, 1) := by decide +kernel
theorem dX5_isZeroOn_116 : decode cX5_isZeroOn 116 = .ok (.iaload, 1) := by decide +kernel
theorem dX5_isZeroOn_117 : decode cX5_isZeroOn 117 = .ok (.ifCond .eq 5, 3) := by decide +kernel
theorem dX5_isZeroOn_120 : decode cX5_isZeroOn 120 = .ok (.iconst 0, 1) := by decide +kernel
theorem dX5_isZeroOn_121 : decode cX5_isZeroOn 121 = .ok (.ireturn, 1) := by decide +kernel
theorem dX5_isZeroOn_122 : decode cX5_isZeroOn 122 = .ok (.iinc 6 1, 3) := by decide +kernel
theorem dX5_isZeroOn_125 : decode cX5_isZeroOn 125 = .ok (.goto (-82), 3) := by decide +kernel
theorem dX5_isZeroOn_128 : decode cX5_isZeroOn 128 = .ok (.iinc 5 1, 3) := by decide +kernel
theorem dX5_isZeroOn_131 : decode cX5_isZeroOn 131 = .ok (.goto (-100), 3) := by decide +kernel
theorem dX5_isZeroOn_134 : decode cX5_isZeroOn 134 = .ok (.iconst 1, 1) := by decide +kernel
theorem dX5_isZeroOn_135 : decode cX5_isZeroOn 135 = .ok (.ireturn, 1) := by decide +kernel
theorem dX6_init_0 : decode cX6_init 0 = .ok (.aload_n 0, 1) := by decide +kernel
theorem dX6_init_1 : decode cX6_init 1 = .ok (.invokespecial 3, 3) := by decide +kernel
theorem dX6_init_4 : decode cX6_init 4 = .ok (.aload_n 0, 1) := by decide +kernel
theorem dX6_init_5 : decode cX6_init 5 = .ok (.iconst 0, 1) := by decide +kernel
theorem dX6_init_6 : decode cX6_init 6 = .ok (.putfield 9, 3) := by decide +kernel
theorem dX6_init_9 : decode cX6_init 9 = .ok (.aload_n 0, 1) := by decide +kernel
theorem dX6_init_10 : decode cX6_init 10 = .ok (.iconst 0, 1) := by decide +kernel
theorem dX6_init_11 : decode cX6_init 11 = .ok (.putfield 15, 3) := by decide +kernel
theorem dX6_init_14 : decode cX6_init 14 = .ok (.aload_n 0, 1) := by decide +kernel
theorem dX6_init_15 : decode cX6_init 15 = .ok (.iload_n 1, 1) := by decide +kernel
theorem dX6_init_16 : decode cX6_init 16 = .ok (.newarray .int, 2) := by decide +kernel
theorem dX6_init_18 : decode cX6_init 18 = .ok (.putfield 19, 3) := by decide +kernel
theorem dX6_init_21 : decode cX6_init 21 = .ok (.aload_n 0, 1) := by decide +kernel
theorem dX6_init_22 : decode cX6_init 22 = .ok (.iload_n 1, 1) := by decide +kernel
theorem dX6_init_23 : decode cX6_init 23 = .ok (.newarray .int, 2) := by decide +kernel
theorem dX6_init_25 : decode cX6_init 25 = .ok (.putfield 23, 3) := by decide +kernel
theorem dX6_init_28 : decode cX6_init 28 = .ok (.return_, 1) := by decide +kernel
theorem dX6_key_0 : decode cX6_key 0 = .ok (.iload_n 0, 1) := by decide +kernel
theorem dX6_key_1 : decode cX6_key 1 = .ok (.bipush 12, 2) := by decide +kernel
theorem dX6_key_3 : decode cX6_key 3 = .ok (.ishl, 1) := by decide +kernel
theorem dX6_key_4 : decode cX6_key 4 = .ok (.iload_n 1, 1) := by decide +kernel
theorem dX6_key_5 : decode cX6_key 5 = .ok (.bipush 6, 2) := by decide +kernel
theorem dX6_key_7 : decode cX6_key 7 = .ok (.ishl, 1) := by decide +kernel
theorem dX6_key_8 : decode cX6_key 8 = .ok (.ior, 1) := by decide +kernel
theorem dX6_key_9 : decode cX6_key 9 = .ok (.iload_n 2, 1) := by decide +kernel
theorem dX6_key_10 : decode cX6_key 10 = .ok (.ior, 1) := by decide +kernel
theorem dX6_key_11 : decode cX6_key 11 = .ok (.ireturn, 1) := by decide +kernel
theorem dX6_unit_0 : decode cX6_unit 0 = .ok (.iconst 1, 1) := by decide +kernel
theorem dX6_unit_1 : decode cX6_unit 1 = .ok (.iconst 2, 1) := by decide +kernel
theorem dX6_unit_2 : decode cX6_unit 2 = .ok (.iload_n 0, 1) := by decide +kernel
theorem dX6_unit_3 : decode cX6_unit 3 = .ok (.isub, 1) := by decide +kernel
theorem dX6_unit_4 : decode cX6_unit 4 = .ok (.bipush 6, 2) := by decide +kernel
theorem dX6_unit_6 : decode cX6_unit 6 = .ok (.imul, 1) := by decide +kernel
theorem dX6_unit_7 : decode cX6_unit 7 = .ok (.ishl, 1) := by decide +kernel
theorem dX6_unit_8 : decode cX6_unit 8 = .ok (.ireturn, 1) := by decide +kernel
theorem dX6_exponent_0 : decode cX6_exponent 0 = .ok (.iload_n 0, 1) := by decide +kernel
theorem dX6_exponent_1 : decode cX6_exponent 1 = .ok (.iconst 2, 1) := by decide +kernel
theorem dX6_exponent_2 : decode cX6_exponent 2 = .ok (.iload_n 1, 1) := by decide +kernel
theorem dX6_exponent_3 : decode cX6_exponent 3 = .ok (.isub, 1) := by decide +kernel
theorem dX6_exponent_4 : decode cX6_exponent 4 = .ok (.bipush 6, 2) := by decide +kernel
theorem dX6_exponent_6 : decode cX6_exponent 6 = .ok (.imul, 1) := by decide +kernel
theorem dX6_exponent_7 : decode cX6_exponent 7 = .ok (.ishr, 1) := by decide +kernel
theorem dX6_exponent_8 : decode cX6_exponent 8 = .ok (.bipush 63, 2) := by decide +kernel
theorem dX6_exponent_10 : decode cX6_exponent 10 = .ok (.iand, 1) := by decide +kernel
theorem dX6_exponent_11 : decode cX6_exponent 11 = .ok (.ireturn, 1) := by decide +kernel
theorem dX6_degreeOf_0 : decode cX6_degreeOf 0 = .ok (.iload_n 0, 1) := by decide +kernel
theorem dX6_degreeOf_1 : decode cX6_degreeOf 1 = .ok (.iconst 0, 1) := by decide +kernel
theorem dX6_degreeOf_2 : decode cX6_degreeOf 2 = .ok (.invokestatic 26, 3) := by decide +kernel
theorem dX6_degreeOf_5 : decode cX6_degreeOf 5 = .ok (.iload_n 0, 1) := by decide +kernel
theorem dX6_degreeOf_6 : decode cX6_degreeOf 6 = .ok (.iconst 1, 1) := by decide +kernel
theorem dX6_degreeOf_7 : decode cX6_degreeOf 7 = .ok (.invokestatic 26, 3) := by decide +kernel
theorem dX6_degreeOf_10 : decode cX6_degreeOf 10 = .ok (.iadd, 1) := by decide +kernel
theorem dX6_degreeOf_11 : decode cX6_degreeOf 11 = .ok (.iload_n 0, 1) := by decide +kernel
theorem dX6_degreeOf_12 : decode cX6_degreeOf 12 = .ok (.iconst 2, 1) := by decide +kernel
theorem dX6_degreeOf_13 : decode cX6_degreeOf 13 = .ok (.invokestatic 26, 3) := by decide +kernel
theorem dX6_degreeOf_16 : decode cX6_degreeOf 16 = .ok (.iadd, 1) := by decide +kernel
theorem dX6_degreeOf_17 : decode cX6_degreeOf 17 = .ok (.ireturn, 1) := by decide +kernel
theorem dX6_single_0 : decode cX6_single 0 = .ok (.new 10, 3) := by decide +kernel
theorem dX6_single_3 : decode cX6_single 3 = .ok (.dup, 1) := by decide +kernel
theorem dX6_single_4 : decode cX6_single 4 = .ok (.iload_n 1, 1) := by decide +kernel
theorem dX6_single_5 : decode cX6_single 5 = .ok (.ifCond .ne 7, 3) := by decide +kernel
theorem dX6_single_8 : decode cX6_single 8 = .ok (.iconst 0, 1) := by decide +kernel
theorem dX6_single_9 : decode cX6_single 9 = .ok (.goto 4, 3) := by decide +kernel
theorem dX6_single_12 : decode cX6_single 12 = .ok (.iconst 1, 1) := by decide +kernel
theorem dX6_single_13 : decode cX6_single 13 = .ok (.invokespecial 30, 3) := by decide +kernel
theorem dX6_single_16 : decode cX6_single 16 = .ok (.astore_n 2, 1) := by decide +kernel
theorem dX6_single_17 : decode cX6_single 17 = .ok (.aload_n 2, 1) := by decide +kernel
theorem dX6_single_18 : decode cX6_single 18 = .ok (.iload_n 0, 1) := by decide +kernel
theorem dX6_single_19 : decode cX6_single 19 = .ok (.iload_n 1, 1) := by decide +kernel
theorem dX6_single_20 : decode cX6_single 20 = .ok (.invokevirtual 33, 3) := by decide +kernel
theorem dX6_single_23 : decode cX6_single 23 = .ok (.aload_n 2, 1) := by decide +kernel
theorem dX6_single_24 : decode cX6_single 24 = .ok (.areturn, 1) := by decide +kernel
theorem dX6_clear_0 : decode cX6_clear 0 = .ok (.aload_n 0, 1) := by decide +kernel
theorem dX6_clear_1 : decode cX6_clear 1 = .ok (.iconst 0, 1) := by decide +kernel
theorem dX6_clear_2 : decode cX6_clear 2 = .ok (.putfield 9, 3) := by decide +kernel
theorem dX6_clear_5 : decode cX6_clear 5 = .ok (.aload_n 0, 1) := by decide +kernel
theorem dX6_clear_6 : decode cX6_clear 6 = .ok (.iconst 0, 1) := by decide +kernel
theorem dX6_clear_7 : decode cX6_clear 7 = .ok (.putfield 15, 3) := by decide +kernel
theorem dX6_clear_10 : decode cX6_clear 10 = .ok (.return_, 1) := by decide +kernel
theorem dX6_push_0 : decode cX6_push 0 = .ok (.iload_n 2, 1) := by decide +kernel
theorem dX6_push_1 : decode cX6_push 1 = .ok (.ifCond .ne 4, 3) := by decide +kernel
theorem dX6_push_4 : decode cX6_push 4 = .ok (.return_, 1) := by decide +kernel
theorem dX6_push_5 : decode cX6_push 5 = .ok (.aload_n 0, 1) := by decide +kernel
theorem dX6_push_6 : decode cX6_push 6 = .ok (.getfield 9, 3) := by decide +kernel
theorem dX6_push_9 : decode cX6_push 9 = .ok (.aload_n 0, 1) := by decide +kernel
theorem dX6_push_10 : decode cX6_push 10 = .ok (.getfield 19, 3) := by decide +kernel
theorem dX6_push_13 : decode cX6_push 13 = .ok (.arraylength, 1) := by decide +kernel
theorem dX6_push_14 : decode cX6_push 14 = .ok (.if_icmp .lt 9, 3) := by decide +kernel
theorem dX6_push_17 : decode cX6_push 17 = .ok (.aload_n 0, 1) := by decide +kernel
theorem dX6_push_18 : decode cX6_push 18 = .ok (.iconst 1, 1) := by decide +kernel
theorem dX6_push_19 : decode cX6_push 19 = .ok (.putfield 15, 3) := by decide +kernel
theorem dX6_push_22 : decode cX6_push 22 = .ok (.return_, 1) := by decide +kernel
theorem dX6_push_23 : decode cX6_push 23 = .ok (.aload_n 0, 1) := by decide +kernel
theorem dX6_push_24 : decode cX6_push 24 = .ok (.getfield 19, 3) := by decide +kernel
theorem dX6_push_27 : decode cX6_push 27 = .ok (.aload_n 0, 1) := by decide +kernel
theorem dX6_push_28 : decode cX6_push 28 = .ok (.getfield 9, 3) := by decide +kernel
theorem dX6_push_31 : decode cX6_push 31 = .ok (.iload_n 1, 1) := by decide +kernel
theorem dX6_push_32 : decode cX6_push 32 = .ok (.iastore, 1) := by decide +kernel
theorem dX6_push_33 : decode cX6_push 33 = .ok (.aload_n 0, 1) := by decide +kernel
theorem dX6_push_34 : decode cX6_push 34 = .ok (.getfield 23, 3) := by decide +kernel
theorem dX6_push_37 : decode cX6_push 37 = .ok (.aload_n 0, 1) := by decide +kernel
theorem dX6_push_38 : decode cX6_push 38 = .ok (.getfield 9, 3) := by decide +kernel
theorem dX6_push_41 : decode cX6_push 41 = .ok (.iload_n 2, 1) := by decide +kernel
theorem dX6_push_42 : decode cX6_push 42 = .ok (.iastore, 1) := by decide +kernel
theorem dX6_push_43 : decode cX6_push 43 = .ok (.aload_n 0, 1) := by decide +kernel
theorem dX6_push_44 : decode cX6_push 44 = .ok (.dup, 1) := by decide +kernel
theorem dX6_push_45 : decode cX6_push 45 = .ok (.getfield 9, 3) := by decide +kernel
theorem dX6_push_48 : decode cX6_push 48 = .ok (.iconst 1, 1) := by decide +kernel
theorem dX6_push_49 : decode cX6_push 49 = .ok (.iadd, 1) := by decide +kernel
theorem dX6_push_50 : decode cX6_push 50 = .ok (.putfield 9, 3) := by decide +kernel
theorem dX6_push_53 : decode cX6_push 53 = .ok (.return_, 1) := by decide +kernel
theorem dX6_kept_0 : decode cX6_kept 0 = .ok (.aload_n 0, 1) := by decide +kernel
theorem dX6_kept_1 : decode cX6_kept 1 = .ok (.getfield 15, 3) := by decide +kernel
theorem dX6_kept_4 : decode cX6_kept 4 = .ok (.ifCond .eq 5, 3) := by decide +kernel
theorem dX6_kept_7 : decode cX6_kept 7 = .ok (.aconst_null, 1) := by decide +kernel
theorem dX6_kept_8 : decode cX6_kept 8 = .ok (.areturn, 1) := by decide +kernel
theorem dX6_kept_9 : decode cX6_kept 9 = .ok (.new 10, 3) := by decide +kernel
theorem dX6_kept_12 : decode cX6_kept 12 = .ok (.dup, 1) := by decide +kernel
theorem dX6_kept_13 : decode cX6_kept 13 = .ok (.aload_n 0, 1) := by decide +kernel
theorem dX6_kept_14 : decode cX6_kept 14 = .ok (.getfield 9, 3) := by decide +kernel
theorem dX6_kept_17 : decode cX6_kept 17 = .ok (.invokespecial 30, 3) := by decide +kernel
theorem dX6_kept_20 : decode cX6_kept 20 = .ok (.astore_n 1, 1) := by decide +kernel
theorem dX6_kept_21 : decode cX6_kept 21 = .ok (.aload_n 0, 1) := by decide +kernel
theorem dX6_kept_22 : decode cX6_kept 22 = .ok (.getfield 19, 3) := by decide +kernel
theorem dX6_kept_25 : decode cX6_kept 25 = .ok (.iconst 0, 1) := by decide +kernel
theorem dX6_kept_26 : decode cX6_kept 26 = .ok (.aload_n 1, 1) := by decide +kernel
theorem dX6_kept_27 : decode cX6_kept 27 = .ok (.getfield 19, 3) := by decide +kernel
theorem dX6_kept_30 : decode cX6_kept 30 = .ok (.iconst 0, 1) := by decide +kernel
theorem dX6_kept_31 : decode cX6_kept 31 = .ok (.aload_n 0, 1) := by decide +kernel
theorem dX6_kept_32 : decode cX6_kept 32 = .ok (.getfield 9, 3) := by decide +kernel
theorem dX6_kept_35 : decode cX6_kept 35 = .ok (.invokestatic 37, 3) := by decide +kernel
theorem dX6_kept_38 : decode cX6_kept 38 = .ok (.aload_n 0, 1) := by decide +kernel
theorem dX6_kept_39 : decode cX6_kept 39 = .ok (.getfield 23, 3) := by decide +kernel
theorem dX6_kept_42 : decode cX6_kept 42 = .ok (.iconst 0, 1) := by decide +kernel
theorem dX6_kept_43 : decode cX6_kept 43 = .ok (.aload_n 1, 1) := by decide +kernel
theorem dX6_kept_44 : decode cX6_kept 44 = .ok (.getfield 23, 3) := by decide +kernel
theorem dX6_kept_47 : decode cX6_kept 47 = .ok (.iconst 0, 1) := by decide +kernel
theorem dX6_kept_48 : decode cX6_kept 48 = .ok (.aload_n 0, 1) := by decide +kernel
theorem dX6_kept_49 : decode cX6_kept 49 = .ok (.getfield 9, 3) := by decide +kernel
theorem dX6_kept_52 : decode cX6_kept 52 = .ok (.invokestatic 37, 3) := by decide +kernel
theorem dX6_kept_55 : decode cX6_kept 55 = .ok (.aload_n 1, 1) := by decide +kernel
theorem dX6_kept_56 : decode cX6_kept 56 = .ok (.aload_n 0, 1) := by decide +kernel
theorem dX6_kept_57 : decode cX6_kept 57 = .ok (.getfield 9, 3) := by decide +kernel
theorem dX6_kept_60 : decode cX6_kept 60 = .ok (.putfield 9, 3) := by decide +kernel
theorem dX6_kept_63 : decode cX6_kept 63 = .ok (.aload_n 1, 1) := by decide +kernel
theorem dX6_kept_64 : decode cX6_kept 64 = .ok (.areturn, 1) := by decide +kernel
theorem dX6_degree_0 : decode cX6_degree 0 = .ok (.iconst (-1), 1) := by decide +kernel
theorem dX6_degree_1 : decode cX6_degree 1 = .ok (.istore_n 1, 1) := by decide +kernel
theorem dX6_degree_2 : decode cX6_degree 2 = .ok (.iconst 0, 1) := by decide +kernel
theorem dX6_degree_3 : decode cX6_degree 3 = .ok (.istore_n 2, 1) := by decide +kernel
theorem dX6_degree_4 : decode cX6_degree 4 = .ok (.iload_n 2, 1) := by decide +kernel
theorem dX6_degree_5 : decode cX6_degree 5 = .ok (.aload_n 0, 1) := by decide +kernel
theorem dX6_degree_6 : decode cX6_degree 6 = .ok (.getfield 9, 3) := by decide +kernel
theorem dX6_degree_9 : decode cX6_degree 9 = .ok (.if_icmp .ge 23, 3) := by decide +kernel
theorem dX6_degree_12 : decode cX6_degree 12 = .ok (.iload_n 1, 1) := by decide +kernel
theorem dX6_degree_13 : decode cX6_degree 13 = .ok (.aload_n 0, 1) := by decide +kernel
theorem dX6_degree_14 : decode cX6_degree 14 = .ok (.getfield 19, 3) := by decide +kernel
theorem dX6_degree_17 : decode cX6_degree 17 = .ok (.iload_n 2, 1) := by decide +kernel
theorem dX6_degree_18 : decode cX6_degree 18 = .ok (.iaload, 1) := by decide +kernel
theorem dX6_degree_19 : decode cX6_degree 19 = .ok (.invokestatic 43, 3) := by decide +kernel
theorem dX6_degree_22 : decode cX6_degree 22 = .ok (.invokestatic 47, 3) := by decide +kernel
theorem dX6_degree_25 : decode cX6_degree 25 = .ok (.istore_n 1, 1) := by decide +kernel
theorem dX6_degree_26 : decode cX6_degree 26 = .ok (.iinc 2 1, 3) := by decide +kernel
theorem dX6_degree_29 : decode cX6_degree 29 = .ok (.goto (-25), 3) := by decide +kernel
theorem dX6_degree_32 : decode cX6_degree 32 = .ok (.iload_n 1, 1) := by decide +kernel
theorem dX6_degree_33 : decode cX6_degree 33 = .ok (.ireturn, 1) := by decide +kernel
theorem dX6_degreeIn_0 : decode cX6_degreeIn 0 = .ok (.iconst (-1), 1) := by decide +kernel
theorem dX6_degreeIn_1 : decode cX6_degreeIn 1 = .ok (.istore_n 2, 1) := by decide +kernel
theorem dX6_degreeIn_2 : decode cX6_degreeIn 2 = .ok (.iconst 0, 1) := by decide +kernel
theorem dX6_degreeIn_3 : decode cX6_degreeIn 3 = .ok (.istore_n 3, 1) := by decide +kernel
theorem dX6_degreeIn_4 : decode cX6_degreeIn 4 = .ok (.iload_n 3, 1) := by decide +kernel
theorem dX6_degreeIn_5 : decode cX6_degreeIn 5 = .ok (.aload_n 0, 1) := by decide +kernel
theorem dX6_degreeIn_6 : decode cX6_degreeIn 6 = .ok (.getfield 9, 3) := by decide +kernel
theorem dX6_degreeIn_9 : decode cX6_degreeIn 9 = .ok (.if_icmp .ge 24, 3) := by decide +kernel
theorem dX6_degreeIn_12 : decode cX6_degreeIn 12 = .ok (.iload_n 2, 1) := by decide +kernel
theorem dX6_degreeIn_13 : decode cX6_degreeIn 13 = .ok (.aload_n 0, 1) := by decide +kernel
theorem dX6_degreeIn_14 : decode cX6_degreeIn 14 = .ok (.getfield 19, 3) := by decide +kernel
theorem dX6_degreeIn_17 : decode cX6_degreeIn 17 = .ok (.iload_n 3, 1) := by decide +kernel
theorem dX6_degreeIn_18 : decode cX6_degreeIn 18 = .ok (.iaload, 1) := by decide +kernel
theorem dX6_degreeIn_19 : decode cX6_degreeIn 19 = .ok (.iload_n 1, 1) := by decide +kernel
theorem dX6_degreeIn_20 : decode cX6_degreeIn 20 = .ok (.invokestatic 26, 3) := by decide +kernel
theorem dX6_degreeIn_23 : decode cX6_degreeIn 23 = .ok (.invokestatic 47, 3) := by decide +kernel
theorem dX6_degreeIn_26 : decode cX6_degreeIn 26 = .ok (.istore_n 2, 1) := by decide +kernel
theorem dX6_degreeIn_27 : decode cX6_degreeIn 27 = .ok (.iinc 3 1, 3) := by decide +kernel
theorem dX6_degreeIn_30 : decode cX6_degreeIn 30 = .ok (.goto (-26), 3) := by decide +kernel
theorem dX6_degreeIn_33 : decode cX6_degreeIn 33 = .ok (.iload_n 2, 1) := by decide +kernel
theorem dX6_degreeIn_34 : decode cX6_degreeIn 34 = .ok (.ireturn, 1) := by decide +kernel
theorem dX6_roomIn_0 : decode cX6_roomIn 0 = .ok (.iconst 0, 1) := by decide +kernel
theorem dX6_roomIn_1 : decode cX6_roomIn 1 = .ok (.aload_n 0, 1) := by decide +kernel
theorem dX6_roomIn_2 : decode cX6_roomIn 2 = .ok (.iload_n 1, 1) := by decide +kernel
theorem dX6_roomIn_3 : decode cX6_roomIn 3 = .ok (.invokevirtual 52, 3) := by decide +kernel
theorem dX6_roomIn_6 : decode cX6_roomIn 6 = .ok (.invokestatic 47, 3) := by decide +kernel
theorem dX6_roomIn_9 : decode cX6_roomIn 9 = .ok (.ireturn, 1) := by decide +kernel
theorem dX6_leastIn_0 : decode cX6_leastIn 0 = .ok (.aload_n 0, 1) := by decide +kernel
theorem dX6_leastIn_1 : decode cX6_leastIn 1 = .ok (.getfield 9, 3) := by decide +kernel
theorem dX6_leastIn_4 : decode cX6_leastIn 4 = .ok (.ifCond .ne 7, 3) := by decide +kernel
theorem dX6_leastIn_7 : decode cX6_leastIn 7 = .ok (.iconst 0, 1) := by decide +kernel
theorem dX6_leastIn_8 : decode cX6_leastIn 8 = .ok (.goto 5, 3) := by decide +kernel
theorem dX6_leastIn_11 : decode cX6_leastIn 11 = .ok (.bipush 40, 2) := by decide +kernel
theorem dX6_leastIn_13 : decode cX6_leastIn 13 = .ok (.istore_n 2, 1) := by decide +kernel
theorem dX6_leastIn_14 : decode cX6_leastIn 14 = .ok (.iconst 0, 1) := by decide +kernel
theorem dX6_leastIn_15 : decode cX6_leastIn 15 = .ok (.istore_n 3, 1) := by decide +kernel
theorem dX6_leastIn_16 : decode cX6_leastIn 16 = .ok (.iload_n 3, 1) := by decide +kernel
theorem dX6_leastIn_17 : decode cX6_leastIn 17 = .ok (.aload_n 0, 1) := by decide +kernel
theorem dX6_leastIn_18 : decode cX6_leastIn 18 = .ok (.getfield 9, 3) := by decide +kernel
theorem dX6_leastIn_21 : decode cX6_leastIn 21 = .ok (.if_icmp .ge 24, 3) := by decide +kernel
theorem dX6_leastIn_24 : decode cX6_leastIn 24 = .ok (.iload_n 2, 1) := by decide +kernel
theorem dX6_leastIn_25 : decode cX6_leastIn 25 = .ok (.aload_n 0, 1) := by decide +kernel
theorem dX6_leastIn_26 : decode cX6_leastIn 26 = .ok (.getfield 19, 3) := by decide +kernel
theorem dX6_leastIn_29 : decode cX6_leastIn 29 = .ok (.iload_n 3, 1) := by decide +kernel
theorem dX6_leastIn_30 : decode cX6_leastIn 30 = .ok (.iaload, 1) := by decide +kernel
theorem dX6_leastIn_31 : decode cX6_leastIn 31 = .ok (.iload_n 1, 1) := by decide +kernel
theorem dX6_leastIn_32 : decode cX6_leastIn 32 = .ok (.invokestatic 26, 3) := by decide +kernel
theorem dX6_leastIn_35 : decode cX6_leastIn 35 = .ok (.invokestatic 55, 3) := by decide +kernel
theorem dX6_leastIn_38 : decode cX6_leastIn 38 = .ok (.istore_n 2, 1) := by decide +kernel
theorem dX6_leastIn_39 : decode cX6_leastIn 39 = .ok (.iinc 3 1, 3) := by decide +kernel
theorem dX6_leastIn_42 : decode cX6_leastIn 42 = .ok (.goto (-26), 3) := by decide +kernel
theorem dX6_leastIn_45 : decode cX6_leastIn 45 = .ok (.iload_n 2, 1) := by decide +kernel
theorem dX6_leastIn_46 : decode cX6_leastIn 46 = .ok (.ireturn, 1) := by decide +kernel
theorem dX6_isInXAlone_0 : decode cX6_isInXAlone 0 = .ok (.aload_n 0, 1) := by decide +kernel
theorem dX6_isInXAlone_1 : decode cX6_isInXAlone 1 = .ok (.iconst 1, 1) := by decide +kernel
theorem dX6_isInXAlone_2 : decode cX6_isInXAlone 2 = .ok (.invokevirtual 52, 3) := by decide +kernel
theorem dX6_isInXAlone_5 : decode cX6_isInXAlone 5 = .ok (.ifCond .gt 15, 3) := by decide +kernel
theorem dX6_isInXAlone_8 : decode cX6_isInXAlone 8 = .ok (.aload_n 0, 1) := by decide +kernel
theorem dX6_isInXAlone_9 : decode cX6_isInXAlone 9 = .ok (.iconst 2, 1) := by decide +kernel
theorem dX6_isInXAlone_10 : decode cX6_isInXAlone 10 = .ok (.invokevirtual 52, 3) := by decide +kernel
theorem dX6_isInXAlone_13 : decode cX6_isInXAlone 13 = .ok (.ifCond .gt 7, 3) := by decide +kernel
theorem dX6_isInXAlone_16 : decode cX6_isInXAlone 16 = .ok (.iconst 1, 1) := by decide +kernel
theorem dX6_isInXAlone_17 : decode cX6_isInXAlone 17 = .ok (.goto 4, 3) := by decide +kernel
theorem dX6_isInXAlone_20 : decode cX6_isInXAlone 20 = .ok (.iconst 0, 1) := by decide +kernel
theorem dX6_isInXAlone_21 : decode cX6_isInXAlone 21 = .ok (.ireturn, 1) := by decide +kernel
theorem dX6_hasOneDegree_0 : decode cX6_hasOneDegree 0 = .ok (.iconst 1, 1) := by decide +kernel
theorem dX6_hasOneDegree_1 : decode cX6_hasOneDegree 1 = .ok (.istore_n 1, 1) := by decide +kernel
theorem dX6_hasOneDegree_2 : decode cX6_hasOneDegree 2 = .ok (.iload_n 1, 1) := by decide +kernel
theorem dX6_hasOneDegree_3 : decode cX6_hasOneDegree 3 = .ok (.aload_n 0, 1) := by decide +kernel
theorem dX6_hasOneDegree_4 : decode cX6_hasOneDegree 4 = .ok (.getfield 9, 3) := by decide +kernel
theorem dX6_hasOneDegree_7 : decode cX6_hasOneDegree 7 = .ok (.if_icmp .ge 32, 3) := by decide +kernel
theorem dX6_hasOneDegree_10 : decode cX6_hasOneDegree 10 = .ok (.aload_n 0, 1) := by decide +kernel
theorem dX6_hasOneDegree_11 : decode cX6_hasOneDegree 11 = .ok (.getfield 19, 3) := by decide +kernel
theorem dX6_hasOneDegree_14 : decode cX6_hasOneDegree 14 = .ok (.iload_n 1, 1) := by decide +kernel
theorem dX6_hasOneDegree_15 : decode cX6_hasOneDegree 15 = .ok (.iaload, 1) := by decide +kernel
theorem dX6_hasOneDegree_16 : decode cX6_hasOneDegree 16 = .ok (.invokestatic 43, 3) := by decide +kernel
theorem dX6_hasOneDegree_19 : decode cX6_hasOneDegree 19 = .ok (.aload_n 0, 1) := by decide +kernel
theorem dX6_hasOneDegree_20 : decode cX6_hasOneDegree 20 = .ok (.getfield 19, 3) := by decide +kernel
theorem dX6_hasOneDegree_23 : decode cX6_hasOneDegree 23 = .ok (.iconst 0, 1) := by decide +kernel
theorem dX6_hasOneDegree_24 : decode cX6_hasOneDegree 24 = .ok (.iaload, 1) := by decide +kernel
theorem dX6_hasOneDegree_25 : decode cX6_hasOneDegree 25 = .ok (.invokestatic 43, 3) := by decide +kernel
theorem dX6_hasOneDegree_28 : decode cX6_hasOneDegree 28 = .ok (.if_icmp .eq 5, 3) := by decide +kernel
theorem dX6_hasOneDegree_31 : decode cX6_hasOneDegree 31 = .ok (.iconst 0, 1) := by decide +kernel
theorem dX6_hasOneDegree_32 : decode cX6_hasOneDegree 32 = .ok (.ireturn, 1) := by decide +kernel
theorem dX6_hasOneDegree_33 : decode cX6_hasOneDegree 33 = .ok (.iinc 1 1, 3) := by decide +kernel
theorem dX6_hasOneDegree_36 : decode cX6_hasOneDegree 36 = .ok (.goto (-34), 3) := by decide +kernel
theorem dX6_hasOneDegree_39 : decode cX6_hasOneDegree 39 = .ok (.iconst 1, 1) := by decide +kernel
theorem dX6_hasOneDegree_40 : decode cX6_hasOneDegree 40 = .ok (.ireturn, 1) := by decide +kernel
theorem dX6_numberWith_0 : decode cX6_numberWith 0 = .ok (.iconst 0, 1) := by decide +kernel
theorem dX6_numberWith_1 : decode cX6_numberWith 1 = .ok (.istore_n 2, 1) := by decide +kernel
theorem dX6_numberWith_2 : decode cX6_numberWith 2 = .ok (.iload_n 2, 1) := by decide +kernel
theorem dX6_numberWith_3 : decode cX6_numberWith 3 = .ok (.aload_n 0, 1) := by decide +kernel
theorem dX6_numberWith_4 : decode cX6_numberWith 4 = .ok (.getfield 9, 3) := by decide +kernel
theorem dX6_numberWith_7 : decode cX6_numberWith 7 = .ok (.if_icmp .ge 26, 3) := by decide +kernel
theorem dX6_numberWith_10 : decode cX6_numberWith 10 = .ok (.aload_n 0, 1) := by decide +kernel
theorem dX6_numberWith_11 : decode cX6_numberWith 11 = .ok (.getfield 19, 3) := by decide +kernel
theorem dX6_numberWith_14 : decode cX6_numberWith 14 = .ok (.iload_n 2, 1) := by decide +kernel
theorem dX6_numberWith_15 : decode cX6_numberWith 15 = .ok (.iaload, 1) := by decide +kernel
theorem dX6_numberWith_16 : decode cX6_numberWith 16 = .ok (.iload_n 1, 1) := by decide +kernel
theorem dX6_numberWith_17 : decode cX6_numberWith 17 = .ok (.if_icmp .ne 10, 3) := by decide +kernel
theorem dX6_numberWith_20 : decode cX6_numberWith 20 = .ok (.aload_n 0, 1) := by decide +kernel
theorem dX6_numberWith_21 : decode cX6_numberWith 21 = .ok (.getfield 23, 3) := by decide +kernel
theorem dX6_numberWith_24 : decode cX6_numberWith 24 = .ok (.iload_n 2, 1) := by decide +kernel
theorem dX6_numberWith_25 : decode cX6_numberWith 25 = .ok (.iaload, 1) := by decide +kernel
theorem dX6_numberWith_26 : decode cX6_numberWith 26 = .ok (.ireturn, 1) := by decide +kernel
theorem dX6_numberWith_27 : decode cX6_numberWith 27 = .ok (.iinc 2 1, 3) := by decide +kernel
theorem dX6_numberWith_30 : decode cX6_numberWith 30 = .ok (.goto (-28), 3) := by decide +kernel
theorem dX6_numberWith_33 : decode cX6_numberWith 33 = .ok (.iconst 0, 1) := by decide +kernel
theorem dX6_numberWith_34 : decode cX6_numberWith 34 = .ok (.ireturn, 1) := by decide +kernel
theorem dX6_isLike_0 : decode cX6_isLike 0 = .ok (.aload_n 0, 1) := by decide +kernel
theorem dX6_isLike_1 : decode cX6_isLike 1 = .ok (.getfield 9, 3) := by decide +kernel
theorem dX6_isLike_4 : decode cX6_isLike 4 = .ok (.aload_n 1, 1) := by decide +kernel
theorem dX6_isLike_5 : decode cX6_isLike 5 = .ok (.getfield 9, 3) := by decide +kernel
theorem dX6_isLike_8 : decode cX6_isLike 8 = .ok (.if_icmp .eq 5, 3) := by decide +kernel
theorem dX6_isLike_11 : decode cX6_isLike 11 = .ok (.iconst 0, 1) := by decide +kernel
theorem dX6_isLike_12 : decode cX6_isLike 12 = .ok (.ireturn, 1) := by decide +kernel
theorem dX6_isLike_13 : decode cX6_isLike 13 = .ok (.iconst 0, 1) := by decide +kernel
theorem dX6_isLike_14 : decode cX6_isLike 14 = .ok (.istore_n 2, 1) := by decide +kernel
theorem dX6_isLike_15 : decode cX6_isLike 15 = .ok (.iload_n 2, 1) := by decide +kernel
theorem dX6_isLike_16 : decode cX6_isLike 16 = .ok (.aload_n 0, 1) := by decide +kernel
theorem dX6_isLike_17 : decode cX6_isLike 17 = .ok (.getfield 9, 3) := by decide +kernel
theorem dX6_isLike_20 : decode cX6_isLike 20 = .ok (.if_icmp .ge 41, 3) := by decide +kernel
theorem dX6_isLike_23 : decode cX6_isLike 23 = .ok (.aload_n 0, 1) := by decide +kernel
theorem dX6_isLike_24 : decode cX6_isLike 24 = .ok (.getfield 19, 3) := by decide +kernel
theorem dX6_isLike_27 : decode cX6_isLike 27 = .ok (.iload_n 2, 1) := by decide +kernel
theorem dX6_isLike_28 : decode cX6_isLike 28 = .ok (.iaload, 1) := by decide +kernel
theorem dX6_isLike_29 : decode cX6_isLike 29 = .ok (.aload_n 1, 1) := by decide +kernel
theorem dX6_isLike_30 : decode cX6_isLike 30 = .ok (.getfield 19, 3) := by decide +kernel
theorem dX6_isLike_33 : decode cX6_isLike 33 = .ok (.iload_n 2, 1) := by decide +kernel
theorem dX6_isLike_34 : decode cX6_isLike 34 = .ok (.iaload, 1) := by decide +kernel
theorem dX6_isLike_35 : decode cX6_isLike 35 = .ok (.if_icmp .ne 18, 3) := by decide +kernel
theorem dX6_isLike_38 : decode cX6_isLike 38 = .ok (.aload_n 0, 1) := by decide +kernel
theorem dX6_isLike_39 : decode cX6_isLike 39 = .ok (.getfield 23, 3) := by decide +kernel
theorem dX6_isLike_42 : decode cX6_isLike 42 = .ok (.iload_n 2, 1) := by decide +kernel
theorem dX6_isLike_43 : decode cX6_isLike 43 = .ok (.iaload, 1) := by decide +kernel
theorem dX6_isLike_44 : decode cX6_isLike 44 = .ok (.aload_n 1, 1) := by decide +kernel
theorem dX6_isLike_45 : decode cX6_isLike 45 = .ok (.getfield 23, 3) := by decide +kernel
theorem dX6_isLike_48 : decode cX6_isLike 48 = .ok (.iload_n 2, 1) := by decide +kernel
theorem dX6_isLike_49 : decode cX6_isLike 49 = .ok (.iaload, 1) := by decide +kernel
theorem dX6_isLike_50 : decode cX6_isLike 50 = .ok (.if_icmp .eq 5, 3) := by decide +kernel
theorem dX6_isLike_53 : decode cX6_isLike 53 = .ok (.iconst 0, 1) := by decide +kernel
theorem dX6_isLike_54 : decode cX6_isLike 54 = .ok (.ireturn, 1) := by decide +kernel
theorem dX6_isLike_55 : decode cX6_isLike 55 = .ok (.iinc 2 1, 3) := by decide +kernel
theorem dX6_isLike_58 : decode cX6_isLike 58 = .ok (.goto (-43), 3) := by decide +kernel
theorem dX6_isLike_61 : decode cX6_isLike 61 = .ok (.iconst 1, 1) := by decide +kernel
theorem dX6_isLike_62 : decode cX6_isLike 62 = .ok (.ireturn, 1) := by decide +kernel
theorem dX8_init_0 : decode cX8_init 0 = .ok (.aload_n 0, 1) := by decide +kernel
theorem dX8_init_1 : decode cX8_init 1 = .ok (.invokespecial 3, 3) := by decide +kernel
theorem dX8_init_4 : decode cX8_init 4 = .ok (.aload_n 0, 1) := by decide +kernel
theorem dX8_init_5 : decode cX8_init 5 = .ok (.iconst 0, 1) := by decide +kernel
theorem dX8_init_6 : decode cX8_init 6 = .ok (.putfield 9, 3) := by decide +kernel
theorem dX8_init_9 : decode cX8_init 9 = .ok (.aload_n 0, 1) := by decide +kernel
theorem dX8_init_10 : decode cX8_init 10 = .ok (.bipush 23, 2) := by decide +kernel
theorem dX8_init_12 : decode cX8_init 12 = .ok (.newarray .int, 2) := by decide +kernel
theorem dX8_init_14 : decode cX8_init 14 = .ok (.putfield 15, 3) := by decide +kernel
theorem dX8_init_17 : decode cX8_init 17 = .ok (.aload_n 0, 1) := by decide +kernel
theorem dX8_init_18 : decode cX8_init 18 = .ok (.iconst 0, 1) := by decide +kernel
theorem dX8_init_19 : decode cX8_init 19 = .ok (.putfield 19, 3) := by decide +kernel
theorem dX8_init_22 : decode cX8_init 22 = .ok (.aload_n 0, 1) := by decide +kernel
theorem dX8_init_23 : decode cX8_init 23 = .ok (.sipush 257, 3) := by decide +kernel
theorem dX8_init_26 : decode cX8_init 26 = .ok (.putfield 22, 3) := by decide +kernel
theorem dX8_init_29 : decode cX8_init 29 = .ok (.aload_n 0, 1) := by decide +kernel
theorem dX8_init_30 : decode cX8_init 30 = .ok (.iconst 0, 1) := by decide +kernel
theorem dX8_init_31 : decode cX8_init 31 = .ok (.putfield 25, 3) := by decide +kernel
theorem dX8_init_34 : decode cX8_init 34 = .ok (.aload_n 0, 1) := by decide +kernel
theorem dX8_init_35 : decode cX8_init 35 = .ok (.iconst 0, 1) := by decide +kernel
theorem dX8_init_36 : decode cX8_init 36 = .ok (.putfield 28, 3) := by decide +kernel
theorem dX8_init_39 : decode cX8_init 39 = .ok (.aload_n 0, 1) := by decide +kernel
theorem dX8_init_40 : decode cX8_init 40 = .ok (.aload_n 1, 1) := by decide +kernel
theorem dX8_init_41 : decode cX8_init 41 = .ok (.putfield 31, 3) := by decide +kernel
theorem dX8_init_44 : decode cX8_init 44 = .ok (.aload_n 0, 1) := by decide +kernel
theorem dX8_init_45 : decode cX8_init 45 = .ok (.iload_n 2, 1) := by decide +kernel
theorem dX8_init_46 : decode cX8_init 46 = .ok (.putfield 34, 3) := by decide +kernel
theorem dX8_init_49 : decode cX8_init 49 = .ok (.aload_n 0, 1) := by decide +kernel
theorem dX8_init_50 : decode cX8_init 50 = .ok (.aload_n 3, 1) := by decide +kernel
theorem dX8_init_51 : decode cX8_init 51 = .ok (.putfield 37, 3) := by decide +kernel
theorem dX8_init_54 : decode cX8_init 54 = .ok (.aload_n 0, 1) := by decide +kernel
theorem dX8_init_55 : decode cX8_init 55 = .ok (.getfield 15, 3) := by decide +kernel
theorem dX8_init_58 : decode cX8_init 58 = .ok (.iconst (-1), 1) := by decide +kernel
theorem dX8_init_59 : decode cX8_init 59 = .ok (.invokestatic 41, 3) := by decide +kernel
theorem dX8_init_62 : decode cX8_init 62 = .ok (.return_, 1) := by decide +kernel
theorem dX8_read_0 : decode cX8_read 0 = .ok (.iconst 0, 1) := by decide +kernel
theorem dX8_read_1 : decode cX8_read 1 = .ok (.istore_n 1, 1) := by decide +kernel
theorem dX8_read_2 : decode cX8_read 2 = .ok (.iload_n 1, 1) := by decide +kernel
theorem dX8_read_3 : decode cX8_read 3 = .ok (.aload_n 0, 1) := by decide +kernel
theorem dX8_read_4 : decode cX8_read 4 = .ok (.getfield 34, 3) := by decide +kernel
theorem dX8_read_7 : decode cX8_read 7 = .ok (.if_icmp .gt 34, 3) := by decide +kernel
theorem dX8_read_10 : decode cX8_read 10 = .ok (.aload_n 0, 1) := by decide +kernel
theorem dX8_read_11 : decode cX8_read 11 = .ok (.invokevirtual 47, 3) := by decide +kernel
theorem dX8_read_14 : decode cX8_read 14 = .ok (.aload_n 0, 1) := by decide +kernel
theorem dX8_read_15 : decode cX8_read 15 = .ok (.invokevirtual 50, 3) := by decide +kernel
theorem dX8_read_18 : decode cX8_read 18 = .ok (.istore_n 2, 1) := by decide +kernel
theorem dX8_read_19 : decode cX8_read 19 = .ok (.iload_n 2, 1) := by decide +kernel
theorem dX8_read_20 : decode cX8_read 20 = .ok (.ifCond .ne 13, 3) := by decide +kernel
theorem dX8_read_23 : decode cX8_read 23 = .ok (.aload_n 0, 1) := by decide +kernel
theorem dX8_read_24 : decode cX8_read 24 = .ok (.getfield 22, 3) := by decide +kernel
theorem dX8_read_27 : decode cX8_read 27 = .ok (.sipush 257, 3) := by decide +kernel
theorem dX8_read_30 : decode cX8_read 30 = .ok (.if_icmp .ne 5, 3) := by decide +kernel
theorem dX8_read_33 : decode cX8_read 33 = .ok (.iload_n 2, 1) := by decide +kernel
theorem dX8_read_34 : decode cX8_read 34 = .ok (.ireturn, 1) := by decide +kernel
theorem dX8_read_35 : decode cX8_read 35 = .ok (.iinc 1 1, 3) := by decide +kernel
theorem dX8_read_38 : decode cX8_read 38 = .ok (.goto (-36), 3) := by decide +kernel
theorem dX8_read_41 : decode cX8_read 41 = .ok (.iconst 1, 1) := by decide +kernel
theorem dX8_read_42 : decode cX8_read 42 = .ok (.ireturn, 1) := by decide +kernel
theorem dX8_readToken_0 : decode cX8_readToken 0 = .ok (.aload_n 0, 1) := by decide +kernel
theorem dX8_readToken_1 : decode cX8_readToken 1 = .ok (.getfield 19, 3) := by decide +kernel
theorem dX8_readToken_4 : decode cX8_readToken 4 = .ok (.aload_n 0, 1) := by decide +kernel
theorem dX8_readToken_5 : decode cX8_readToken 5 = .ok (.getfield 34, 3) := by decide +kernel
theorem dX8_readToken_8 : decode cX8_readToken 8 = .ok (.if_icmp .ge 44, 3) := by decide +kernel
theorem dX8_readToken_11 : decode cX8_readToken 11 = .ok (.aload_n 0, 1) := by decide +kernel
theorem dX8_readToken_12 : decode cX8_readToken 12 = .ok (.getfield 31, 3) := by decide +kernel
theorem dX8_readToken_15 : decode cX8_readToken 15 = .ok (.aload_n 0, 1) := by decide +kernel
theorem dX8_readToken_16 : decode cX8_readToken 16 = .ok (.getfield 19, 3) := by decide +kernel
theorem dX8_readToken_19 : decode cX8_readToken 19 = .ok (.iaload, 1) := by decide +kernel
theorem dX8_readToken_20 : decode cX8_readToken 20 = .ok (.bipush 32, 2) := by decide +kernel
theorem dX8_readToken_22 : decode cX8_readToken 22 = .ok (.if_icmp .eq 17, 3) := by decide +kernel
theorem dX8_readToken_25 : decode cX8_readToken 25 = .ok (.aload_n 0, 1) := by decide +kernel
theorem dX8_readToken_26 : decode cX8_readToken 26 = .ok (.getfield 31, 3) := by decide +kernel
theorem dX8_readToken_29 : decode cX8_readToken 29 = .ok (.aload_n 0, 1) := by decide +kernel
theorem dX8_readToken_30 : decode cX8_readToken 30 = .ok (.getfield 19, 3) := by decide +kernel
theorem dX8_readToken_33 : decode cX8_readToken 33 = .ok (.iaload, 1) := by decide +kernel
theorem dX8_readToken_34 : decode cX8_readToken 34 = .ok (.bipush 10, 2) := by decide +kernel
theorem dX8_readToken_36 : decode cX8_readToken 36 = .ok (.if_icmp .ne 16, 3) := by decide +kernel
theorem dX8_readToken_39 : decode cX8_readToken 39 = .ok (.aload_n 0, 1) := by decide +kernel
theorem dX8_readToken_40 : decode cX8_readToken 40 = .ok (.dup, 1) := by decide +kernel
theorem dX8_readToken_41 : decode cX8_readToken 41 = .ok (.getfield 19, 3) := by decide +kernel
theorem dX8_readToken_44 : decode cX8_readToken 44 = .ok (.iconst 1, 1) := by decide +kernel
theorem dX8_readToken_45 : decode cX8_readToken 45 = .ok (.iadd, 1) := by decide +kernel
theorem dX8_readToken_46 : decode cX8_readToken 46 = .ok (.putfield 19, 3) := by decide +kernel
theorem dX8_readToken_49 : decode cX8_readToken 49 = .ok (.goto (-49), 3) := by decide +kernel
theorem dX8_readToken_52 : decode cX8_readToken 52 = .ok (.aload_n 0, 1) := by decide +kernel
theorem dX8_readToken_53 : decode cX8_readToken 53 = .ok (.aload_n 0, 1) := by decide +kernel
theorem dX8_readToken_54 : decode cX8_readToken 54 = .ok (.getfield 19, 3) := by decide +kernel
theorem dX8_readToken_57 : decode cX8_readToken 57 = .ok (.putfield 9, 3) := by decide +kernel
theorem dX8_readToken_60 : decode cX8_readToken 60 = .ok (.aload_n 0, 1) := by decide +kernel
theorem dX8_readToken_61 : decode cX8_readToken 61 = .ok (.getfield 19, 3) := by decide +kernel
theorem dX8_readToken_64 : decode cX8_readToken 64 = .ok (.aload_n 0, 1) := by decide +kernel
theorem dX8_readToken_65 : decode cX8_readToken 65 = .ok (.getfield 34, 3) := by decide +kernel
theorem dX8_readToken_68 : decode cX8_readToken 68 = .ok (.if_icmp .lt 13, 3) := by decide +kernel
theorem dX8_readToken_71 : decode cX8_readToken 71 = .ok (.aload_n 0, 1) := by decide +kernel
theorem dX8_readToken_72 : decode cX8_readToken 72 = .ok (.sipush 257, 3) := by decide +kernel
theorem dX8_readToken_75 : decode cX8_readToken 75 = .ok (.putfield 22, 3) := by decide +kernel
theorem dX8_readToken_78 : decode cX8_readToken 78 = .ok (.goto 55, 3) := by decide +kernel
theorem dX8_readToken_81 : decode cX8_readToken 81 = .ok (.aload_n 0, 1) := by decide +kernel
theorem dX8_readToken_82 : decode cX8_readToken 82 = .ok (.getfield 31, 3) := by decide +kernel
theorem dX8_readToken_85 : decode cX8_readToken 85 = .ok (.aload_n 0, 1) := by decide +kernel
theorem dX8_readToken_86 : decode cX8_readToken 86 = .ok (.getfield 19, 3) := by decide +kernel
theorem dX8_readToken_89 : decode cX8_readToken 89 = .ok (.iaload, 1) := by decide +kernel
theorem dX8_readToken_90 : decode cX8_readToken 90 = .ok (.invokestatic 54, 3) := by decide +kernel
theorem dX8_readToken_93 : decode cX8_readToken 93 = .ok (.ifCond .eq 17, 3) := by decide +kernel
theorem dX8_readToken_96 : decode cX8_readToken 96 = .ok (.aload_n 0, 1) := by decide +kernel
theorem dX8_readToken_97 : decode cX8_readToken 97 = .ok (.sipush 256, 3) := by decide +kernel
theorem dX8_readToken_100 : decode cX8_readToken 100 = .ok (.putfield 22, 3) := by decide +kernel
theorem dX8_readToken_103 : decode cX8_readToken 103 = .ok (.aload_n 0, 1) := by decide +kernel
theorem dX8_readToken_104 : decode cX8_readToken 104 = .ok (.invokevirtual 58, 3) := by decide +kernel
theorem dX8_readToken_107 : decode cX8_readToken 107 = .ok (.goto 26, 3) := by decide +kernel
theorem dX8_readToken_110 : decode cX8_readToken 110 = .ok (.aload_n 0, 1) := by decide +kernel
theorem dX8_readToken_111 : decode cX8_readToken 111 = .ok (.aload_n 0, 1) := by decide +kernel
theorem dX8_readToken_112 : decode cX8_readToken 112 = .ok (.getfield 31, 3) := by decide +kernel
theorem dX8_readToken_115 : decode cX8_readToken 115 = .ok (.aload_n 0, 1) := by decide +kernel
theorem dX8_readToken_116 : decode cX8_readToken 116 = .ok (.getfield 19, 3) := by decide +kernel
theorem dX8_readToken_119 : decode cX8_readToken 119 = .ok (.iaload, 1) := by decide +kernel
theorem dX8_readToken_120 : decode cX8_readToken 120 = .ok (.putfield 22, 3) := by decide +kernel
theorem dX8_readToken_123 : decode cX8_readToken 123 = .ok (.aload_n 0, 1) := by decide +kernel
theorem dX8_readToken_124 : decode cX8_readToken 124 = .ok (.dup, 1) := by decide +kernel
theorem dX8_readToken_125 : decode cX8_readToken 125 = .ok (.getfield 19, 3) := by decide +kernel
theorem dX8_readToken_128 : decode cX8_readToken 128 = .ok (.iconst 1, 1) := by decide +kernel
theorem dX8_readToken_129 : decode cX8_readToken 129 = .ok (.iadd, 1) := by decide +kernel
theorem dX8_readToken_130 : decode cX8_readToken 130 = .ok (.putfield 19, 3) := by decide +kernel
theorem dX8_readToken_133 : decode cX8_readToken 133 = .ok (.return_, 1) := by decide +kernel
theorem dX8_isFigure_0 : decode cX8_isFigure 0 = .ok (.iload_n 0, 1) := by decide +kernel
theorem dX8_isFigure_1 : decode cX8_isFigure 1 = .ok (.bipush 48, 2) := by decide +kernel
theorem dX8_isFigure_3 : decode cX8_isFigure 3 = .ok (.if_icmp .lt 13, 3) := by decide +kernel
theorem dX8_isFigure_6 : decode cX8_isFigure 6 = .ok (.iload_n 0, 1) := by decide +kernel
theorem dX8_isFigure_7 : decode cX8_isFigure 7 = .ok (.bipush 57, 2) := by decide +kernel
theorem dX8_isFigure_9 : decode cX8_isFigure 9 = .ok (.if_icmp .gt 7, 3) := by decide +kernel
theorem dX8_isFigure_12 : decode cX8_isFigure 12 = .ok (.iconst 1, 1) := by decide +kernel
theorem dX8_isFigure_13 : decode cX8_isFigure 13 = .ok (.goto 4, 3) := by decide +kernel
theorem dX8_isFigure_16 : decode cX8_isFigure 16 = .ok (.iconst 0, 1) := by decide +kernel
theorem dX8_isFigure_17 : decode cX8_isFigure 17 = .ok (.ireturn, 1) := by decide +kernel
theorem dX8_readNumber_0 : decode cX8_readNumber 0 = .ok (.aload_n 0, 1) := by decide +kernel
theorem dX8_readNumber_1 : decode cX8_readNumber 1 = .ok (.iconst 0, 1) := by decide +kernel
theorem dX8_readNumber_2 : decode cX8_readNumber 2 = .ok (.putfield 25, 3) := by decide +kernel
theorem dX8_readNumber_5 : decode cX8_readNumber 5 = .ok (.aload_n 0, 1) := by decide +kernel
theorem dX8_readNumber_6 : decode cX8_readNumber 6 = .ok (.getfield 19, 3) := by decide +kernel
theorem dX8_readNumber_9 : decode cX8_readNumber 9 = .ok (.aload_n 0, 1) := by decide +kernel
theorem dX8_readNumber_10 : decode cX8_readNumber 10 = .ok (.getfield 34, 3) := by decide +kernel
theorem dX8_readNumber_13 : decode cX8_readNumber 13 = .ok (.if_icmp .ge 61, 3) := by decide +kernel
theorem dX8_readNumber_16 : decode cX8_readNumber 16 = .ok (.aload_n 0, 1) := by decide +kernel
theorem dX8_readNumber_17 : decode cX8_readNumber 17 = .ok (.getfield 31, 3) := by decide +kernel
theorem dX8_readNumber_20 : decode cX8_readNumber 20 = .ok (.aload_n 0, 1) := by decide +kernel
theorem dX8_readNumber_21 : decode cX8_readNumber 21 = .ok (.getfield 19, 3) := by decide +kernel
theorem dX8_readNumber_24 : decode cX8_readNumber 24 = .ok (.iaload, 1) := by decide +kernel
theorem dX8_readNumber_25 : decode cX8_readNumber 25 = .ok (.invokestatic 54, 3) := by decide +kernel
theorem dX8_readNumber_28 : decode cX8_readNumber 28 = .ok (.ifCond .eq 46, 3) := by decide +kernel
theorem dX8_readNumber_31 : decode cX8_readNumber 31 = .ok (.aload_n 0, 1) := by decide +kernel
theorem dX8_readNumber_32 : decode cX8_readNumber 32 = .ok (.aload_n 0, 1) := by decide +kernel
theorem dX8_readNumber_33 : decode cX8_readNumber 33 = .ok (.getfield 25, 3) := by decide +kernel
theorem dX8_readNumber_36 : decode cX8_readNumber 36 = .ok (.bipush 10, 2) := by decide +kernel
theorem dX8_readNumber_38 : decode cX8_readNumber 38 = .ok (.imul, 1) := by decide +kernel
theorem dX8_readNumber_39 : decode cX8_readNumber 39 = .ok (.aload_n 0, 1) := by decide +kernel
theorem dX8_readNumber_40 : decode cX8_readNumber 40 = .ok (.getfield 31, 3) := by decide +kernel
theorem dX8_readNumber_43 : decode cX8_readNumber 43 = .ok (.aload_n 0, 1) := by decide +kernel
theorem dX8_readNumber_44 : decode cX8_readNumber 44 = .ok (.getfield 19, 3) := by decide +kernel
theorem dX8_readNumber_47 : decode cX8_readNumber 47 = .ok (.iaload, 1) := by decide +kernel
theorem dX8_readNumber_48 : decode cX8_readNumber 48 = .ok (.iadd, 1) := by decide +kernel
theorem dX8_readNumber_49 : decode cX8_readNumber 49 = .ok (.bipush 48, 2) := by decide +kernel
theorem dX8_readNumber_51 : decode cX8_readNumber 51 = .ok (.isub, 1) := by decide +kernel
theorem dX8_readNumber_52 : decode cX8_readNumber 52 = .ok (.sipush 1000, 3) := by decide +kernel
theorem dX8_readNumber_55 : decode cX8_readNumber 55 = .ok (.invokestatic 61, 3) := by decide +kernel
theorem dX8_readNumber_58 : decode cX8_readNumber 58 = .ok (.putfield 25, 3) := by decide +kernel
theorem dX8_readNumber_61 : decode cX8_readNumber 61 = .ok (.aload_n 0, 1) := by decide +kernel
theorem dX8_readNumber_62 : decode cX8_readNumber 62 = .ok (.dup, 1) := by decide +kernel
theorem dX8_readNumber_63 : decode cX8_readNumber 63 = .ok (.getfield 19, 3) := by decide +kernel
theorem dX8_readNumber_66 : decode cX8_readNumber 66 = .ok (.iconst 1, 1) := by decide +kernel
theorem dX8_readNumber_67 : decode cX8_readNumber 67 = .ok (.iadd, 1) := by decide +kernel
theorem dX8_readNumber_68 : decode cX8_readNumber 68 = .ok (.putfield 19, 3) := by decide +kernel
theorem dX8_readNumber_71 : decode cX8_readNumber 71 = .ok (.goto (-66), 3) := by decide +kernel
theorem dX8_readNumber_74 : decode cX8_readNumber 74 = .ok (.return_, 1) := by decide +kernel
theorem dX8_take_0 : decode cX8_take 0 = .ok (.aload_n 0, 1) := by decide +kernel
theorem dX8_take_1 : decode cX8_take 1 = .ok (.getfield 28, 3) := by decide +kernel
theorem dX8_take_4 : decode cX8_take 4 = .ok (.tableswitch 83 0 6 #[44, 44, 49, 68, 73, 68, 78], 44) := by decide +kernel
theorem dX8_take_48 : decode cX8_take 48 = .ok (.aload_n 0, 1) := by decide +kernel
theorem dX8_take_49 : decode cX8_take 49 = .ok (.invokevirtual 67, 3) := by decide +kernel
theorem dX8_take_52 : decode cX8_take 52 = .ok (.ireturn, 1) := by decide +kernel
theorem dX8_take_53 : decode cX8_take 53 = .ok (.aload_n 0, 1) := by decide +kernel
theorem dX8_take_54 : decode cX8_take 54 = .ok (.getfield 22, 3) := by decide +kernel
theorem dX8_take_57 : decode cX8_take 57 = .ok (.bipush 61, 2) := by decide +kernel
theorem dX8_take_59 : decode cX8_take 59 = .ok (.if_icmp .ne 11, 3) := by decide +kernel
theorem dX8_take_62 : decode cX8_take 62 = .ok (.aload_n 0, 1) := by decide +kernel
theorem dX8_take_63 : decode cX8_take 63 = .ok (.iconst 3, 1) := by decide +kernel
theorem dX8_take_64 : decode cX8_take 64 = .ok (.invokevirtual 70, 3) := by decide +kernel
theorem dX8_take_67 : decode cX8_take 67 = .ok (.goto 4, 3) := by decide +kernel
theorem dX8_take_70 : decode cX8_take 70 = .ok (.iconst 1, 1) := by decide +kernel
theorem dX8_take_71 : decode cX8_take 71 = .ok (.ireturn, 1) := by decide +kernel
theorem dX8_take_72 : decode cX8_take 72 = .ok (.aload_n 0, 1) := by decide +kernel
theorem dX8_take_73 : decode cX8_take 73 = .ok (.invokevirtual 74, 3) := by decide +kernel
theorem dX8_take_76 : decode cX8_take 76 = .ok (.ireturn, 1) := by decide +kernel
theorem dX8_take_77 : decode cX8_take 77 = .ok (.aload_n 0, 1) := by decide +kernel
theorem dX8_take_78 : decode cX8_take 78 = .ok (.invokevirtual 77, 3) := by decide +kernel
theorem dX8_take_81 : decode cX8_take 81 = .ok (.ireturn, 1) := by decide +kernel
theorem dX8_take_82 : decode cX8_take 82 = .ok (.aload_n 0, 1) := by decide +kernel
theorem dX8_take_83 : decode cX8_take 83 = .ok (.invokevirtual 80, 3) := by decide +kernel
theorem dX8_take_86 : decode cX8_take 86 = .ok (.ireturn, 1) := by decide +kernel
theorem dX8_take_87 : decode cX8_take 87 = .ok (.aload_n 0, 1) := by decide +kernel
theorem dX8_take_88 : decode cX8_take 88 = .ok (.invokevirtual 83, 3) := by decide +kernel
theorem dX8_take_91 : decode cX8_take 91 = .ok (.ireturn, 1) := by decide +kernel
theorem dX8_go_0 : decode cX8_go 0 = .ok (.aload_n 0, 1) := by decide +kernel
theorem dX8_go_1 : decode cX8_go 1 = .ok (.iload_n 1, 1) := by decide +kernel
theorem dX8_go_2 : decode cX8_go 2 = .ok (.putfield 28, 3) := by decide +kernel
theorem dX8_go_5 : decode cX8_go 5 = .ok (.iconst 0, 1) := by decide +kernel
theorem dX8_go_6 : decode cX8_go 6 = .ok (.ireturn, 1) := by decide +kernel
theorem dX8_takeName_0 : decode cX8_takeName 0 = .ok (.aload_n 0, 1) := by decide +kernel
theorem dX8_takeName_1 : decode cX8_takeName 1 = .ok (.getfield 22, 3) := by decide +kernel
theorem dX8_takeName_4 : decode cX8_takeName 4 = .ok (.sipush 257, 3) := by decide +kernel
theorem dX8_takeName_7 : decode cX8_takeName 7 = .ok (.if_icmp .ne 13, 3) := by decide +kernel
theorem dX8_takeName_10 : decode cX8_takeName 10 = .ok (.aload_n 0, 1) := by decide +kernel
theorem dX8_takeName_11 : decode cX8_takeName 11 = .ok (.getfield 28, 3) := by decide +kernel
theorem dX8_takeName_14 : decode cX8_takeName 14 = .ok (.iconst 1, 1) := by decide +kernel
theorem dX8_takeName_15 : decode cX8_takeName 15 = .ok (.if_icmp .ne 5, 3) := by decide +kernel
theorem dX8_takeName_18 : decode cX8_takeName 18 = .ok (.iconst 0, 1) := by decide +kernel
theorem dX8_takeName_19 : decode cX8_takeName 19 = .ok (.ireturn, 1) := by decide +kernel
theorem dX8_takeName_20 : decode cX8_takeName 20 = .ok (.aload_n 0, 1) := by decide +kernel
theorem dX8_takeName_21 : decode cX8_takeName 21 = .ok (.getfield 22, 3) := by decide +kernel
theorem dX8_takeName_24 : decode cX8_takeName 24 = .ok (.bipush 97, 2) := by decide +kernel
theorem dX8_takeName_26 : decode cX8_takeName 26 = .ok (.if_icmp .lt 12, 3) := by decide +kernel
theorem dX8_takeName_29 : decode cX8_takeName 29 = .ok (.aload_n 0, 1) := by decide +kernel
theorem dX8_takeName_30 : decode cX8_takeName 30 = .ok (.getfield 22, 3) := by decide +kernel
theorem dX8_takeName_33 : decode cX8_takeName 33 = .ok (.bipush 119, 2) := by decide +kernel
theorem dX8_takeName_35 : decode cX8_takeName 35 = .ok (.if_icmp .le 5, 3) := by decide +kernel
theorem dX8_takeName_38 : decode cX8_takeName 38 = .ok (.iconst 1, 1) := by decide +kernel
theorem dX8_takeName_39 : decode cX8_takeName 39 = .ok (.ireturn, 1) := by decide +kernel
theorem dX8_takeName_40 : decode cX8_takeName 40 = .ok (.aload_n 0, 1) := by decide +kernel
theorem dX8_takeName_41 : decode cX8_takeName 41 = .ok (.getfield 15, 3) := by decide +kernel
theorem dX8_takeName_44 : decode cX8_takeName 44 = .ok (.aload_n 0, 1) := by decide +kernel
theorem dX8_takeName_45 : decode cX8_takeName 45 = .ok (.getfield 22, 3) := by decide +kernel
theorem dX8_takeName_48 : decode cX8_takeName 48 = .ok (.bipush 97, 2) := by decide +kernel
theorem dX8_takeName_50 : decode cX8_takeName 50 = .ok (.isub, 1) := by decide +kernel
theorem dX8_takeName_51 : decode cX8_takeName 51 = .ok (.iaload, 1) := by decide +kernel
theorem dX8_takeName_52 : decode cX8_takeName 52 = .ok (.iconst (-1), 1) := by decide +kernel
theorem dX8_takeName_53 : decode cX8_takeName 53 = .ok (.if_icmp .ne 15, 3) := by decide +kernel
theorem dX8_takeName_56 : decode cX8_takeName 56 = .ok (.aload_n 0, 1) := by decide +kernel
theorem dX8_takeName_57 : decode cX8_takeName 57 = .ok (.getfield 37, 3) := by decide +kernel
theorem dX8_takeName_60 : decode cX8_takeName 60 = .ok (.getfield 86, 3) := by decide +kernel
theorem dX8_takeName_63 : decode cX8_takeName 63 = .ok (.bipush 23, 2) := by decide +kernel
theorem dX8_takeName_65 : decode cX8_takeName 65 = .ok (.if_icmp .lt 5, 3) := by decide +kernel
theorem dX8_takeName_68 : decode cX8_takeName 68 = .ok (.iconst 3, 1) := by decide +kernel
theorem dX8_takeName_69 : decode cX8_takeName 69 = .ok (.ireturn, 1) := by decide +kernel
theorem dX8_takeName_70 : decode cX8_takeName 70 = .ok (.aload_n 0, 1) := by decide +kernel
theorem dX8_takeName_71 : decode cX8_takeName 71 = .ok (.getfield 37, 3) := by decide +kernel
theorem dX8_takeName_74 : decode cX8_takeName 74 = .ok (.getfield 91, 3) := by decide +kernel
theorem dX8_takeName_77 : decode cX8_takeName 77 = .ok (.aload_n 0, 1) := by decide +kernel
theorem dX8_takeName_78 : decode cX8_takeName 78 = .ok (.getfield 37, 3) := by decide +kernel
theorem dX8_takeName_81 : decode cX8_takeName 81 = .ok (.getfield 86, 3) := by decide +kernel
theorem dX8_takeName_84 : decode cX8_takeName 84 = .ok (.aload_n 0, 1) := by decide +kernel
theorem dX8_takeName_85 : decode cX8_takeName 85 = .ok (.getfield 22, 3) := by decide +kernel
theorem dX8_takeName_88 : decode cX8_takeName 88 = .ok (.bipush 97, 2) := by decide +kernel
theorem dX8_takeName_90 : decode cX8_takeName 90 = .ok (.isub, 1) := by decide +kernel
theorem dX8_takeName_91 : decode cX8_takeName 91 = .ok (.iconst 1, 1) := by decide +kernel
theorem dX8_takeName_92 : decode cX8_takeName 92 = .ok (.iadd, 1) := by decide +kernel
theorem dX8_takeName_93 : decode cX8_takeName 93 = .ok (.iastore, 1) := by decide +kernel
theorem dX8_takeName_94 : decode cX8_takeName 94 = .ok (.aload_n 0, 1) := by decide +kernel
theorem dX8_takeName_95 : decode cX8_takeName 95 = .ok (.iconst 2, 1) := by decide +kernel
theorem dX8_takeName_96 : decode cX8_takeName 96 = .ok (.invokevirtual 70, 3) := by decide +kernel
theorem dX8_takeName_99 : decode cX8_takeName 99 = .ok (.ireturn, 1) := by decide +kernel
theorem dX8_takeAtom_0 : decode cX8_takeAtom 0 = .ok (.aload_n 0, 1) := by decide +kernel
theorem dX8_takeAtom_1 : decode cX8_takeAtom 1 = .ok (.getfield 22, 3) := by decide +kernel
theorem dX8_takeAtom_4 : decode cX8_takeAtom 4 = .ok (.sipush 256, 3) := by decide +kernel
theorem dX8_takeAtom_7 : decode cX8_takeAtom 7 = .ok (.if_icmp .ne 25, 3) := by decide +kernel
theorem dX8_takeAtom_10 : decode cX8_takeAtom 10 = .ok (.aload_n 0, 1) := by decide +kernel
theorem dX8_takeAtom_11 : decode cX8_takeAtom 11 = .ok (.getfield 25, 3) := by decide +kernel
theorem dX8_takeAtom_14 : decode cX8_takeAtom 14 = .ok (.bipush 99, 2) := by decide +kernel
theorem dX8_takeAtom_16 : decode cX8_takeAtom 16 = .ok (.if_icmp .le 7, 3) := by decide +kernel
theorem dX8_takeAtom_19 : decode cX8_takeAtom 19 = .ok (.iconst 2, 1) := by decide +kernel
theorem dX8_takeAtom_20 : decode cX8_takeAtom 20 = .ok (.goto 11, 3) := by decide +kernel
theorem dX8_takeAtom_23 : decode cX8_takeAtom 23 = .ok (.aload_n 0, 1) := by decide +kernel
theorem dX8_takeAtom_24 : decode cX8_takeAtom 24 = .ok (.aload_n 0, 1) := by decide +kernel
theorem dX8_takeAtom_25 : decode cX8_takeAtom 25 = .ok (.getfield 25, 3) := by decide +kernel
theorem dX8_takeAtom_28 : decode cX8_takeAtom 28 = .ok (.invokevirtual 94, 3) := by decide +kernel
theorem dX8_takeAtom_31 : decode cX8_takeAtom 31 = .ok (.ireturn, 1) := by decide +kernel
theorem dX8_takeAtom_32 : decode cX8_takeAtom 32 = .ok (.aload_n 0, 1) := by decide +kernel
theorem dX8_takeAtom_33 : decode cX8_takeAtom 33 = .ok (.getfield 22, 3) := by decide +kernel
theorem dX8_takeAtom_36 : decode cX8_takeAtom 36 = .ok (.bipush 97, 2) := by decide +kernel
theorem dX8_takeAtom_38 : decode cX8_takeAtom 38 = .ok (.if_icmp .lt 12, 3) := by decide +kernel
theorem dX8_takeAtom_41 : decode cX8_takeAtom 41 = .ok (.aload_n 0, 1) := by decide +kernel
theorem dX8_takeAtom_42 : decode cX8_takeAtom 42 = .ok (.getfield 22, 3) := by decide +kernel
theorem dX8_takeAtom_45 : decode cX8_takeAtom 45 = .ok (.bipush 122, 2) := by decide +kernel
theorem dX8_takeAtom_47 : decode cX8_takeAtom 47 = .ok (.if_icmp .le 5, 3) := by decide +kernel
theorem dX8_takeAtom_50 : decode cX8_takeAtom 50 = .ok (.iconst 1, 1) := by decide +kernel
theorem dX8_takeAtom_51 : decode cX8_takeAtom 51 = .ok (.ireturn, 1) := by decide +kernel
theorem dX8_takeAtom_52 : decode cX8_takeAtom 52 = .ok (.aload_n 0, 1) := by decide +kernel
theorem dX8_takeAtom_53 : decode cX8_takeAtom 53 = .ok (.getfield 22, 3) := by decide +kernel
theorem dX8_takeAtom_56 : decode cX8_takeAtom 56 = .ok (.bipush 120, 2) := by decide +kernel
theorem dX8_takeAtom_58 : decode cX8_takeAtom 58 = .ok (.if_icmp .lt 18, 3) := by decide +kernel
theorem dX8_takeAtom_61 : decode cX8_takeAtom 61 = .ok (.aload_n 0, 1) := by decide +kernel
theorem dX8_takeAtom_62 : decode cX8_takeAtom 62 = .ok (.bipush 100, 2) := by decide +kernel
theorem dX8_takeAtom_64 : decode cX8_takeAtom 64 = .ok (.aload_n 0, 1) := by decide +kernel
theorem dX8_takeAtom_65 : decode cX8_takeAtom 65 = .ok (.getfield 22, 3) := by decide +kernel
theorem dX8_takeAtom_68 : decode cX8_takeAtom 68 = .ok (.iadd, 1) := by decide +kernel
theorem dX8_takeAtom_69 : decode cX8_takeAtom 69 = .ok (.bipush 120, 2) := by decide +kernel
theorem dX8_takeAtom_71 : decode cX8_takeAtom 71 = .ok (.isub, 1) := by decide +kernel
theorem dX8_takeAtom_72 : decode cX8_takeAtom 72 = .ok (.invokevirtual 94, 3) := by decide +kernel
theorem dX8_takeAtom_75 : decode cX8_takeAtom 75 = .ok (.ireturn, 1) := by decide +kernel
theorem dX8_takeAtom_76 : decode cX8_takeAtom 76 = .ok (.aload_n 0, 1) := by decide +kernel
theorem dX8_takeAtom_77 : decode cX8_takeAtom 77 = .ok (.getfield 15, 3) := by decide +kernel
theorem dX8_takeAtom_80 : decode cX8_takeAtom 80 = .ok (.aload_n 0, 1) := by decide +kernel
theorem dX8_takeAtom_81 : decode cX8_takeAtom 81 = .ok (.getfield 22, 3) := by decide +kernel
theorem dX8_takeAtom_84 : decode cX8_takeAtom 84 = .ok (.bipush 97, 2) := by decide +kernel
theorem dX8_takeAtom_86 : decode cX8_takeAtom 86 = .ok (.isub, 1) := by decide +kernel
theorem dX8_takeAtom_87 : decode cX8_takeAtom 87 = .ok (.iaload, 1) := by decide +kernel
theorem dX8_takeAtom_88 : decode cX8_takeAtom 88 = .ok (.istore_n 1, 1) := by decide +kernel
theorem dX8_takeAtom_89 : decode cX8_takeAtom 89 = .ok (.iload_n 1, 1) := by decide +kernel
theorem dX8_takeAtom_90 : decode cX8_takeAtom 90 = .ok (.iconst (-1), 1) := by decide +kernel
theorem dX8_takeAtom_91 : decode cX8_takeAtom 91 = .ok (.if_icmp .ne 7, 3) := by decide +kernel
theorem dX8_takeAtom_94 : decode cX8_takeAtom 94 = .ok (.iconst 3, 1) := by decide +kernel
theorem dX8_takeAtom_95 : decode cX8_takeAtom 95 = .ok (.goto 11, 3) := by decide +kernel
theorem dX8_takeAtom_98 : decode cX8_takeAtom 98 = .ok (.aload_n 0, 1) := by decide +kernel
theorem dX8_takeAtom_99 : decode cX8_takeAtom 99 = .ok (.bipush 103, 2) := by decide +kernel
theorem dX8_takeAtom_101 : decode cX8_takeAtom 101 = .ok (.iload_n 1, 1) := by decide +kernel
theorem dX8_takeAtom_102 : decode cX8_takeAtom 102 = .ok (.iadd, 1) := by decide +kernel
theorem dX8_takeAtom_103 : decode cX8_takeAtom 103 = .ok (.invokevirtual 94, 3) := by decide +kernel
theorem dX8_takeAtom_106 : decode cX8_takeAtom 106 = .ok (.ireturn, 1) := by decide +kernel
theorem dX8_setAtom_0 : decode cX8_setAtom 0 = .ok (.aload_n 0, 1) := by decide +kernel
theorem dX8_setAtom_1 : decode cX8_setAtom 1 = .ok (.getfield 28, 3) := by decide +kernel
theorem dX8_setAtom_4 : decode cX8_setAtom 4 = .ok (.iconst 3, 1) := by decide +kernel
theorem dX8_setAtom_5 : decode cX8_setAtom 5 = .ok (.if_icmp .ne 25, 3) := by decide +kernel
theorem dX8_setAtom_8 : decode cX8_setAtom 8 = .ok (.aload_n 0, 1) := by decide +kernel
theorem dX8_setAtom_9 : decode cX8_setAtom 9 = .ok (.getfield 37, 3) := by decide +kernel
theorem dX8_setAtom_12 : decode cX8_setAtom 12 = .ok (.getfield 97, 3) := by decide +kernel
theorem dX8_setAtom_15 : decode cX8_setAtom 15 = .ok (.aload_n 0, 1) := by decide +kernel
theorem dX8_setAtom_16 : decode cX8_setAtom 16 = .ok (.getfield 37, 3) := by decide +kernel
theorem dX8_setAtom_19 : decode cX8_setAtom 19 = .ok (.getfield 86, 3) := by decide +kernel
theorem dX8_setAtom_22 : decode cX8_setAtom 22 = .ok (.iload_n 1, 1) := by decide +kernel
theorem dX8_setAtom_23 : decode cX8_setAtom 23 = .ok (.iastore, 1) := by decide +kernel
theorem dX8_setAtom_24 : decode cX8_setAtom 24 = .ok (.aload_n 0, 1) := by decide +kernel
theorem dX8_setAtom_25 : decode cX8_setAtom 25 = .ok (.iconst 4, 1) := by decide +kernel
theorem dX8_setAtom_26 : decode cX8_setAtom 26 = .ok (.invokevirtual 70, 3) := by decide +kernel
theorem dX8_setAtom_29 : decode cX8_setAtom 29 = .ok (.ireturn, 1) := by decide +kernel
theorem dX8_setAtom_30 : decode cX8_setAtom 30 = .ok (.aload_n 0, 1) := by decide +kernel
theorem dX8_setAtom_31 : decode cX8_setAtom 31 = .ok (.getfield 37, 3) := by decide +kernel
theorem dX8_setAtom_34 : decode cX8_setAtom 34 = .ok (.getfield 100, 3) := by decide +kernel
theorem dX8_setAtom_37 : decode cX8_setAtom 37 = .ok (.aload_n 0, 1) := by decide +kernel
theorem dX8_setAtom_38 : decode cX8_setAtom 38 = .ok (.getfield 37, 3) := by decide +kernel
theorem dX8_setAtom_41 : decode cX8_setAtom 41 = .ok (.getfield 86, 3) := by decide +kernel
theorem dX8_setAtom_44 : decode cX8_setAtom 44 = .ok (.iload_n 1, 1) := by decide +kernel
theorem dX8_setAtom_45 : decode cX8_setAtom 45 = .ok (.iastore, 1) := by decide +kernel
theorem dX8_setAtom_46 : decode cX8_setAtom 46 = .ok (.aload_n 0, 1) := by decide +kernel
theorem dX8_setAtom_47 : decode cX8_setAtom 47 = .ok (.bipush 7, 2) := by decide +kernel
theorem dX8_setAtom_49 : decode cX8_setAtom 49 = .ok (.invokevirtual 70, 3) := by decide +kernel
theorem dX8_setAtom_52 : decode cX8_setAtom 52 = .ok (.ireturn, 1) := by decide +kernel
theorem dX8_takeSign_0 : decode cX8_takeSign 0 = .ok (.aload_n 0, 1) := by decide +kernel
theorem dX8_takeSign_1 : decode cX8_takeSign 1 = .ok (.getfield 22, 3) := by decide +kernel
theorem dX8_takeSign_4 : decode cX8_takeSign 4 = .ok (.bipush 43, 2) := by decide +kernel
theorem dX8_takeSign_6 : decode cX8_takeSign 6 = .ok (.if_icmp .eq 30, 3) := by decide +kernel
theorem dX8_takeSign_9 : decode cX8_takeSign 9 = .ok (.aload_n 0, 1) := by decide +kernel
theorem dX8_takeSign_10 : decode cX8_takeSign 10 = .ok (.getfield 22, 3) := by decide +kernel
theorem dX8_takeSign_13 : decode cX8_takeSign 13 = .ok (.bipush 45, 2) := by decide +kernel
theorem dX8_takeSign_15 : decode cX8_takeSign 15 = .ok (.if_icmp .eq 21, 3) := by decide +kernel
theorem dX8_takeSign_18 : decode cX8_takeSign 18 = .ok (.aload_n 0, 1) := by decide +kernel
theorem dX8_takeSign_19 : decode cX8_takeSign 19 = .ok (.getfield 22, 3) := by decide +kernel
theorem dX8_takeSign_22 : decode cX8_takeSign 22 = .ok (.bipush 42, 2) := by decide +kernel
theorem dX8_takeSign_24 : decode cX8_takeSign 24 = .ok (.if_icmp .eq 12, 3) := by decide +kernel
theorem dX8_takeSign_27 : decode cX8_takeSign 27 = .ok (.aload_n 0, 1) := by decide +kernel
theorem dX8_takeSign_28 : decode cX8_takeSign 28 = .ok (.getfield 22, 3) := by decide +kernel
theorem dX8_takeSign_31 : decode cX8_takeSign 31 = .ok (.bipush 94, 2) := by decide +kernel
theorem dX8_takeSign_33 : decode cX8_takeSign 33 = .ok (.if_icmp .ne 42, 3) := by decide +kernel
theorem dX8_takeSign_36 : decode cX8_takeSign 36 = .ok (.aload_n 0, 1) := by decide +kernel
theorem dX8_takeSign_37 : decode cX8_takeSign 37 = .ok (.getfield 37, 3) := by decide +kernel
theorem dX8_takeSign_40 : decode cX8_takeSign 40 = .ok (.getfield 103, 3) := by decide +kernel
theorem dX8_takeSign_43 : decode cX8_takeSign 43 = .ok (.aload_n 0, 1) := by decide +kernel
theorem dX8_takeSign_44 : decode cX8_takeSign 44 = .ok (.getfield 37, 3) := by decide +kernel
theorem dX8_takeSign_47 : decode cX8_takeSign 47 = .ok (.getfield 86, 3) := by decide +kernel
theorem dX8_takeSign_50 : decode cX8_takeSign 50 = .ok (.aload_n 0, 1) := by decide +kernel
theorem dX8_takeSign_51 : decode cX8_takeSign 51 = .ok (.getfield 22, 3) := by decide +kernel
theorem dX8_takeSign_54 : decode cX8_takeSign 54 = .ok (.iastore, 1) := by decide +kernel
theorem dX8_takeSign_55 : decode cX8_takeSign 55 = .ok (.aload_n 0, 1) := by decide +kernel
theorem dX8_takeSign_56 : decode cX8_takeSign 56 = .ok (.aload_n 0, 1) := by decide +kernel
theorem dX8_takeSign_57 : decode cX8_takeSign 57 = .ok (.getfield 22, 3) := by decide +kernel
theorem dX8_takeSign_60 : decode cX8_takeSign 60 = .ok (.bipush 94, 2) := by decide +kernel
theorem dX8_takeSign_62 : decode cX8_takeSign 62 = .ok (.if_icmp .ne 8, 3) := by decide +kernel
theorem dX8_takeSign_65 : decode cX8_takeSign 65 = .ok (.bipush 6, 2) := by decide +kernel
theorem dX8_takeSign_67 : decode cX8_takeSign 67 = .ok (.goto 4, 3) := by decide +kernel
theorem dX8_takeSign_70 : decode cX8_takeSign 70 = .ok (.iconst 5, 1) := by decide +kernel
theorem dX8_takeSign_71 : decode cX8_takeSign 71 = .ok (.invokevirtual 70, 3) := by decide +kernel
theorem dX8_takeSign_74 : decode cX8_takeSign 74 = .ok (.ireturn, 1) := by decide +kernel
theorem dX8_takeSign_75 : decode cX8_takeSign 75 = .ok (.aload_n 0, 1) := by decide +kernel
theorem dX8_takeSign_76 : decode cX8_takeSign 76 = .ok (.invokevirtual 83, 3) := by decide +kernel
theorem dX8_takeSign_79 : decode cX8_takeSign 79 = .ok (.ireturn, 1) := by decide +kernel
theorem dX8_takeExponent_0 : decode cX8_takeExponent 0 = .ok (.aload_n 0, 1) := by decide +kernel
theorem dX8_takeExponent_1 : decode cX8_takeExponent 1 = .ok (.getfield 22, 3) := by decide +kernel
theorem dX8_takeExponent_4 : decode cX8_takeExponent 4 = .ok (.sipush 256, 3) := by decide +kernel
theorem dX8_takeExponent_7 : decode cX8_takeExponent 7 = .ok (.if_icmp .eq 5, 3) := by decide +kernel
theorem dX8_takeExponent_10 : decode cX8_takeExponent 10 = .ok (.iconst 1, 1) := by decide +kernel
theorem dX8_takeExponent_11 : decode cX8_takeExponent 11 = .ok (.ireturn, 1) := by decide +kernel
theorem dX8_takeExponent_12 : decode cX8_takeExponent 12 = .ok (.aload_n 0, 1) := by decide +kernel
theorem dX8_takeExponent_13 : decode cX8_takeExponent 13 = .ok (.getfield 25, 3) := by decide +kernel
theorem dX8_takeExponent_16 : decode cX8_takeExponent 16 = .ok (.bipush 9, 2) := by decide +kernel
theorem dX8_takeExponent_18 : decode cX8_takeExponent 18 = .ok (.if_icmp .le 5, 3) := by decide +kernel
theorem dX8_takeExponent_21 : decode cX8_takeExponent 21 = .ok (.iconst 2, 1) := by decide +kernel
theorem dX8_takeExponent_22 : decode cX8_takeExponent 22 = .ok (.ireturn, 1) := by decide +kernel
theorem dX8_takeExponent_23 : decode cX8_takeExponent 23 = .ok (.aload_n 0, 1) := by decide +kernel
theorem dX8_takeExponent_24 : decode cX8_takeExponent 24 = .ok (.getfield 37, 3) := by decide +kernel
theorem dX8_takeExponent_27 : decode cX8_takeExponent 27 = .ok (.getfield 100, 3) := by decide +kernel
theorem dX8_takeExponent_30 : decode cX8_takeExponent 30 = .ok (.aload_n 0, 1) := by decide +kernel
theorem dX8_takeExponent_31 : decode cX8_takeExponent 31 = .ok (.getfield 37, 3) := by decide +kernel
theorem dX8_takeExponent_34 : decode cX8_takeExponent 34 = .ok (.getfield 86, 3) := by decide +kernel
theorem dX8_takeExponent_37 : decode cX8_takeExponent 37 = .ok (.aload_n 0, 1) := by decide +kernel
theorem dX8_takeExponent_38 : decode cX8_takeExponent 38 = .ok (.getfield 25, 3) := by decide +kernel
theorem dX8_takeExponent_41 : decode cX8_takeExponent 41 = .ok (.iastore, 1) := by decide +kernel
theorem dX8_takeExponent_42 : decode cX8_takeExponent 42 = .ok (.aload_n 0, 1) := by decide +kernel
theorem dX8_takeExponent_43 : decode cX8_takeExponent 43 = .ok (.bipush 7, 2) := by decide +kernel
theorem dX8_takeExponent_45 : decode cX8_takeExponent 45 = .ok (.invokevirtual 70, 3) := by decide +kernel
theorem dX8_takeExponent_48 : decode cX8_takeExponent 48 = .ok (.ireturn, 1) := by decide +kernel
theorem dX8_takeStepEnd_0 : decode cX8_takeStepEnd 0 = .ok (.aload_n 0, 1) := by decide +kernel
theorem dX8_takeStepEnd_1 : decode cX8_takeStepEnd 1 = .ok (.getfield 22, 3) := by decide +kernel
theorem dX8_takeStepEnd_4 : decode cX8_takeStepEnd 4 = .ok (.bipush 59, 2) := by decide +kernel
theorem dX8_takeStepEnd_6 : decode cX8_takeStepEnd 6 = .ok (.if_icmp .eq 15, 3) := by decide +kernel
theorem dX8_takeStepEnd_9 : decode cX8_takeStepEnd 9 = .ok (.aload_n 0, 1) := by decide +kernel
theorem dX8_takeStepEnd_10 : decode cX8_takeStepEnd 10 = .ok (.getfield 22, 3) := by decide +kernel
theorem dX8_takeStepEnd_13 : decode cX8_takeStepEnd 13 = .ok (.sipush 257, 3) := by decide +kernel
theorem dX8_takeStepEnd_16 : decode cX8_takeStepEnd 16 = .ok (.if_icmp .eq 5, 3) := by decide +kernel
theorem dX8_takeStepEnd_19 : decode cX8_takeStepEnd 19 = .ok (.iconst 1, 1) := by decide +kernel
theorem dX8_takeStepEnd_20 : decode cX8_takeStepEnd 20 = .ok (.ireturn, 1) := by decide +kernel
theorem dX8_takeStepEnd_21 : decode cX8_takeStepEnd 21 = .ok (.aload_n 0, 1) := by decide +kernel
theorem dX8_takeStepEnd_22 : decode cX8_takeStepEnd 22 = .ok (.getfield 15, 3) := by decide +kernel
theorem dX8_takeStepEnd_25 : decode cX8_takeStepEnd 25 = .ok (.aload_n 0, 1) := by decide +kernel
theorem dX8_takeStepEnd_26 : decode cX8_takeStepEnd 26 = .ok (.getfield 37, 3) := by decide +kernel
theorem dX8_takeStepEnd_29 : decode cX8_takeStepEnd 29 = .ok (.getfield 91, 3) := by decide +kernel
theorem dX8_takeStepEnd_32 : decode cX8_takeStepEnd 32 = .ok (.aload_n 0, 1) := by decide +kernel
theorem dX8_takeStepEnd_33 : decode cX8_takeStepEnd 33 = .ok (.getfield 37, 3) := by decide +kernel
theorem dX8_takeStepEnd_36 : decode cX8_takeStepEnd 36 = .ok (.getfield 86, 3) := by decide +kernel
theorem dX8_takeStepEnd_39 : decode cX8_takeStepEnd 39 = .ok (.iaload, 1) := by decide +kernel
theorem dX8_takeStepEnd_40 : decode cX8_takeStepEnd 40 = .ok (.iconst 1, 1) := by decide +kernel
theorem dX8_takeStepEnd_41 : decode cX8_takeStepEnd 41 = .ok (.isub, 1) := by decide +kernel
theorem dX8_takeStepEnd_42 : decode cX8_takeStepEnd 42 = .ok (.aload_n 0, 1) := by decide +kernel
theorem dX8_takeStepEnd_43 : decode cX8_takeStepEnd 43 = .ok (.getfield 37, 3) := by decide +kernel
theorem dX8_takeStepEnd_46 : decode cX8_takeStepEnd 46 = .ok (.getfield 86, 3) := by decide +kernel
theorem dX8_takeStepEnd_49 : decode cX8_takeStepEnd 49 = .ok (.iastore, 1) := by decide +kernel
theorem dX8_takeStepEnd_50 : decode cX8_takeStepEnd 50 = .ok (.aload_n 0, 1) := by decide +kernel
theorem dX8_takeStepEnd_51 : decode cX8_takeStepEnd 51 = .ok (.getfield 37, 3) := by decide +kernel
theorem dX8_takeStepEnd_54 : decode cX8_takeStepEnd 54 = .ok (.dup, 1) := by decide +kernel
theorem dX8_takeStepEnd_55 : decode cX8_takeStepEnd 55 = .ok (.getfield 86, 3) := by decide +kernel
theorem dX8_takeStepEnd_58 : decode cX8_takeStepEnd 58 = .ok (.iconst 1, 1) := by decide +kernel
theorem dX8_takeStepEnd_59 : decode cX8_takeStepEnd 59 = .ok (.iadd, 1) := by decide +kernel
theorem dX8_takeStepEnd_60 : decode cX8_takeStepEnd 60 = .ok (.putfield 86, 3) := by decide +kernel
theorem dX8_takeStepEnd_63 : decode cX8_takeStepEnd 63 = .ok (.aload_n 0, 1) := by decide +kernel
theorem dX8_takeStepEnd_64 : decode cX8_takeStepEnd 64 = .ok (.iconst 1, 1) := by decide +kernel
theorem dX8_takeStepEnd_65 : decode cX8_takeStepEnd 65 = .ok (.invokevirtual 70, 3) := by decide +kernel
theorem dX8_takeStepEnd_68 : decode cX8_takeStepEnd 68 = .ok (.ireturn, 1) := by decide +kernel
theorem dX10_init_0 : decode cX10_init 0 = .ok (.aload_n 0, 1) := by decide +kernel
theorem dX10_init_1 : decode cX10_init 1 = .ok (.invokespecial 3, 3) := by decide +kernel
theorem dX10_init_4 : decode cX10_init 4 = .ok (.aload_n 0, 1) := by decide +kernel
theorem dX10_init_5 : decode cX10_init 5 = .ok (.iconst 0, 1) := by decide +kernel
theorem dX10_init_6 : decode cX10_init 6 = .ok (.putfield 9, 3) := by decide +kernel
theorem dX10_init_9 : decode cX10_init 9 = .ok (.aload_n 0, 1) := by decide +kernel
theorem dX10_init_10 : decode cX10_init 10 = .ok (.sipush 5400, 3) := by decide +kernel
theorem dX10_init_13 : decode cX10_init 13 = .ok (.newarray .byte, 2) := by decide +kernel
theorem dX10_init_15 : decode cX10_init 15 = .ok (.putfield 15, 3) := by decide +kernel
theorem dX10_init_18 : decode cX10_init 18 = .ok (.return_, 1) := by decide +kernel
theorem dX10_write_0 : decode cX10_write 0 = .ok (.aload_n 0, 1) := by decide +kernel
theorem dX10_write_1 : decode cX10_write 1 = .ok (.iconst 0, 1) := by decide +kernel
theorem dX10_write_2 : decode cX10_write 2 = .ok (.putfield 9, 3) := by decide +kernel
theorem dX10_write_5 : decode cX10_write 5 = .ok (.iconst 0, 1) := by decide +kernel
theorem dX10_write_6 : decode cX10_write 6 = .ok (.istore_n 3, 1) := by decide +kernel
theorem dX10_write_7 : decode cX10_write 7 = .ok (.iload_n 3, 1) := by decide +kernel
theorem dX10_write_8 : decode cX10_write 8 = .ok (.aload_n 1, 1) := by decide +kernel
theorem dX10_write_9 : decode cX10_write 9 = .ok (.getfield 19, 3) := by decide +kernel
theorem dX10_write_12 : decode cX10_write 12 = .ok (.if_icmp .ge 44, 3) := by decide +kernel
theorem dX10_write_15 : decode cX10_write 15 = .ok (.iload_n 3, 1) := by decide +kernel
theorem dX10_write_16 : decode cX10_write 16 = .ok (.ifCond .le 9, 3) := by decide +kernel
theorem dX10_write_19 : decode cX10_write 19 = .ok (.aload_n 0, 1) := by decide +kernel
theorem dX10_write_20 : decode cX10_write 20 = .ok (.bipush 43, 2) := by decide +kernel
theorem dX10_write_22 : decode cX10_write 22 = .ok (.invokevirtual 24, 3) := by decide +kernel
theorem dX10_write_25 : decode cX10_write 25 = .ok (.aload_n 2, 1) := by decide +kernel
theorem dX10_write_26 : decode cX10_write 26 = .ok (.iload_n 3, 1) := by decide +kernel
theorem dX10_write_27 : decode cX10_write 27 = .ok (.invokevirtual 28, 3) := by decide +kernel
theorem dX10_write_30 : decode cX10_write 30 = .ok (.istore 4, 2) := by decide +kernel
theorem dX10_write_32 : decode cX10_write 32 = .ok (.aload_n 0, 1) := by decide +kernel
theorem dX10_write_33 : decode cX10_write 33 = .ok (.aload_n 1, 1) := by decide +kernel
theorem dX10_write_34 : decode cX10_write 34 = .ok (.getfield 34, 3) := by decide +kernel
theorem dX10_write_37 : decode cX10_write 37 = .ok (.iload 4, 2) := by decide +kernel
theorem dX10_write_39 : decode cX10_write 39 = .ok (.iaload, 1) := by decide +kernel
theorem dX10_write_40 : decode cX10_write 40 = .ok (.aload_n 1, 1) := by decide +kernel
theorem dX10_write_41 : decode cX10_write 41 = .ok (.getfield 38, 3) := by decide +kernel
theorem dX10_write_44 : decode cX10_write 44 = .ok (.iload 4, 2) := by decide +kernel
theorem dX10_write_46 : decode cX10_write 46 = .ok (.iaload, 1) := by decide +kernel
theorem dX10_write_47 : decode cX10_write 47 = .ok (.invokevirtual 41, 3) := by decide +kernel
theorem dX10_write_50 : decode cX10_write 50 = .ok (.iinc 3 1, 3) := by decide +kernel
theorem dX10_write_53 : decode cX10_write 53 = .ok (.goto (-46), 3) := by decide +kernel
theorem dX10_write_56 : decode cX10_write 56 = .ok (.aload_n 1, 1) := by decide +kernel
theorem dX10_write_57 : decode cX10_write 57 = .ok (.getfield 19, 3) := by decide +kernel
theorem dX10_write_60 : decode cX10_write 60 = .ok (.ifCond .ne 9, 3) := by decide +kernel
theorem dX10_write_63 : decode cX10_write 63 = .ok (.aload_n 0, 1) := by decide +kernel
theorem dX10_write_64 : decode cX10_write 64 = .ok (.bipush 48, 2) := by decide +kernel
theorem dX10_write_66 : decode cX10_write 66 = .ok (.invokevirtual 24, 3) := by decide +kernel
theorem dX10_write_69 : decode cX10_write 69 = .ok (.return_, 1) := by decide +kernel
theorem dX10_writeTerm_0 : decode cX10_writeTerm 0 = .ok (.iload_n 2, 1) := by decide +kernel
theorem dX10_writeTerm_1 : decode cX10_writeTerm 1 = .ok (.iconst 1, 1) := by decide +kernel
theorem dX10_writeTerm_2 : decode cX10_writeTerm 2 = .ok (.if_icmp .ne 7, 3) := by decide +kernel
theorem dX10_writeTerm_5 : decode cX10_writeTerm 5 = .ok (.iload_n 1, 1) := by decide +kernel
theorem dX10_writeTerm_6 : decode cX10_writeTerm 6 = .ok (.ifCond .ne 7, 3) := by decide +kernel
theorem dX10_writeTerm_9 : decode cX10_writeTerm 9 = .ok (.iconst 1, 1) := by decide +kernel
theorem dX10_writeTerm_10 : decode cX10_writeTerm 10 = .ok (.goto 4, 3) := by decide +kernel
theorem dX10_writeTerm_13 : decode cX10_writeTerm 13 = .ok (.iconst 0, 1) := by decide +kernel
theorem dX10_writeTerm_14 : decode cX10_writeTerm 14 = .ok (.istore_n 3, 1) := by decide +kernel
theorem dX10_writeTerm_15 : decode cX10_writeTerm 15 = .ok (.iload_n 3, 1) := by decide +kernel
theorem dX10_writeTerm_16 : decode cX10_writeTerm 16 = .ok (.ifCond .eq 8, 3) := by decide +kernel
theorem dX10_writeTerm_19 : decode cX10_writeTerm 19 = .ok (.aload_n 0, 1) := by decide +kernel
theorem dX10_writeTerm_20 : decode cX10_writeTerm 20 = .ok (.iload_n 2, 1) := by decide +kernel
theorem dX10_writeTerm_21 : decode cX10_writeTerm 21 = .ok (.invokevirtual 45, 3) := by decide +kernel
theorem dX10_writeTerm_24 : decode cX10_writeTerm 24 = .ok (.iconst 0, 1) := by decide +kernel
theorem dX10_writeTerm_25 : decode cX10_writeTerm 25 = .ok (.istore 4, 2) := by decide +kernel
theorem dX10_writeTerm_27 : decode cX10_writeTerm 27 = .ok (.iload 4, 2) := by decide +kernel
theorem dX10_writeTerm_29 : decode cX10_writeTerm 29 = .ok (.iconst 3, 1) := by decide +kernel
theorem dX10_writeTerm_30 : decode cX10_writeTerm 30 = .ok (.if_icmp .ge 64, 3) := by decide +kernel
theorem dX10_writeTerm_33 : decode cX10_writeTerm 33 = .ok (.iload_n 1, 1) := by decide +kernel
theorem dX10_writeTerm_34 : decode cX10_writeTerm 34 = .ok (.iload 4, 2) := by decide +kernel
theorem dX10_writeTerm_36 : decode cX10_writeTerm 36 = .ok (.invokestatic 48, 3) := by decide +kernel
theorem dX10_writeTerm_39 : decode cX10_writeTerm 39 = .ok (.istore 5, 2) := by decide +kernel
theorem dX10_writeTerm_41 : decode cX10_writeTerm 41 = .ok (.iload 5, 2) := by decide +kernel
theorem dX10_writeTerm_43 : decode cX10_writeTerm 43 = .ok (.ifCond .ne 6, 3) := by decide +kernel
theorem dX10_writeTerm_46 : decode cX10_writeTerm 46 = .ok (.goto 42, 3) := by decide +kernel
theorem dX10_writeTerm_49 : decode cX10_writeTerm 49 = .ok (.iload_n 3, 1) := by decide +kernel
theorem dX10_writeTerm_50 : decode cX10_writeTerm 50 = .ok (.ifCond .eq 9, 3) := by decide +kernel
theorem dX10_writeTerm_53 : decode cX10_writeTerm 53 = .ok (.aload_n 0, 1) := by decide +kernel
theorem dX10_writeTerm_54 : decode cX10_writeTerm 54 = .ok (.bipush 42, 2) := by decide +kernel
theorem dX10_writeTerm_56 : decode cX10_writeTerm 56 = .ok (.invokevirtual 24, 3) := by decide +kernel
theorem dX10_writeTerm_59 : decode cX10_writeTerm 59 = .ok (.iconst 1, 1) := by decide +kernel
theorem dX10_writeTerm_60 : decode cX10_writeTerm 60 = .ok (.istore_n 3, 1) := by decide +kernel
theorem dX10_writeTerm_61 : decode cX10_writeTerm 61 = .ok (.aload_n 0, 1) := by decide +kernel
theorem dX10_writeTerm_62 : decode cX10_writeTerm 62 = .ok (.bipush 120, 2) := by decide +kernel
theorem dX10_writeTerm_64 : decode cX10_writeTerm 64 = .ok (.iload 4, 2) := by decide +kernel
theorem dX10_writeTerm_66 : decode cX10_writeTerm 66 = .ok (.iadd, 1) := by decide +kernel
theorem dX10_writeTerm_67 : decode cX10_writeTerm 67 = .ok (.invokevirtual 24, 3) := by decide +kernel
theorem dX10_writeTerm_70 : decode cX10_writeTerm 70 = .ok (.iload 5, 2) := by decide +kernel
theorem dX10_writeTerm_72 : decode cX10_writeTerm 72 = .ok (.iconst 1, 1) := by decide +kernel
theorem dX10_writeTerm_73 : decode cX10_writeTerm 73 = .ok (.if_icmp .le 15, 3) := by decide +kernel
theorem dX10_writeTerm_76 : decode cX10_writeTerm 76 = .ok (.aload_n 0, 1) := by decide +kernel
theorem dX10_writeTerm_77 : decode cX10_writeTerm 77 = .ok (.bipush 94, 2) := by decide +kernel
theorem dX10_writeTerm_79 : decode cX10_writeTerm 79 = .ok (.invokevirtual 24, 3) := by decide +kernel
theorem dX10_writeTerm_82 : decode cX10_writeTerm 82 = .ok (.aload_n 0, 1) := by decide +kernel
theorem dX10_writeTerm_83 : decode cX10_writeTerm 83 = .ok (.iload 5, 2) := by decide +kernel
