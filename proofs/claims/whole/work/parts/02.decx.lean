theorem dX0_init_0 : decode cX0_init 0 = .ok (.aload_n 0, 1) := by decide +kernel
theorem dX0_init_1 : decode cX0_init 1 = .ok (.invokespecial 3, 3) := by decide +kernel
theorem dX0_init_4 : decode cX0_init 4 = .ok (.return_, 1) := by decide +kernel
theorem dX0_seekFrom_0 : decode cX0_seekFrom 0 = .ok (.iload_n 2, 1) := by decide +kernel
theorem dX0_seekFrom_1 : decode cX0_seekFrom 1 = .ok (.iconst 1, 1) := by decide +kernel
theorem dX0_seekFrom_2 : decode cX0_seekFrom 2 = .ok (.invokestatic 9, 3) := by decide +kernel
theorem dX0_seekFrom_5 : decode cX0_seekFrom 5 = .ok (.istore_n 3, 1) := by decide +kernel
theorem dX0_seekFrom_6 : decode cX0_seekFrom 6 = .ok (.iload_n 3, 1) := by decide +kernel
theorem dX0_seekFrom_7 : decode cX0_seekFrom 7 = .ok (.aload_n 1, 1) := by decide +kernel
theorem dX0_seekFrom_8 : decode cX0_seekFrom 8 = .ok (.invokevirtual 15, 3) := by decide +kernel
theorem dX0_seekFrom_11 : decode cX0_seekFrom 11 = .ok (.if_icmp .ge 90, 3) := by decide +kernel
theorem dX0_seekFrom_14 : decode cX0_seekFrom 14 = .ok (.aload_n 1, 1) := by decide +kernel
theorem dX0_seekFrom_15 : decode cX0_seekFrom 15 = .ok (.iload_n 3, 1) := by decide +kernel
theorem dX0_seekFrom_16 : decode cX0_seekFrom 16 = .ok (.iconst 1, 1) := by decide +kernel
theorem dX0_seekFrom_17 : decode cX0_seekFrom 17 = .ok (.isub, 1) := by decide +kernel
theorem dX0_seekFrom_18 : decode cX0_seekFrom 18 = .ok (.invokevirtual 21, 3) := by decide +kernel
theorem dX0_seekFrom_21 : decode cX0_seekFrom 21 = .ok (.istore 4, 2) := by decide +kernel
theorem dX0_seekFrom_23 : decode cX0_seekFrom 23 = .ok (.aload_n 1, 1) := by decide +kernel
theorem dX0_seekFrom_24 : decode cX0_seekFrom 24 = .ok (.iload_n 3, 1) := by decide +kernel
theorem dX0_seekFrom_25 : decode cX0_seekFrom 25 = .ok (.invokevirtual 21, 3) := by decide +kernel
theorem dX0_seekFrom_28 : decode cX0_seekFrom 28 = .ok (.istore 5, 2) := by decide +kernel
theorem dX0_seekFrom_30 : decode cX0_seekFrom 30 = .ok (.iload 4, 2) := by decide +kernel
theorem dX0_seekFrom_32 : decode cX0_seekFrom 32 = .ok (.iload 5, 2) := by decide +kernel
theorem dX0_seekFrom_34 : decode cX0_seekFrom 34 = .ok (.if_icmp .eq 61, 3) := by decide +kernel
theorem dX0_seekFrom_37 : decode cX0_seekFrom 37 = .ok (.iload 5, 2) := by decide +kernel
theorem dX0_seekFrom_39 : decode cX0_seekFrom 39 = .ok (.iconst (-1), 1) := by decide +kernel
theorem dX0_seekFrom_40 : decode cX0_seekFrom 40 = .ok (.if_icmp .eq 55, 3) := by decide +kernel
theorem dX0_seekFrom_43 : decode cX0_seekFrom 43 = .ok (.aload_n 1, 1) := by decide +kernel
theorem dX0_seekFrom_44 : decode cX0_seekFrom 44 = .ok (.iload_n 3, 1) := by decide +kernel
theorem dX0_seekFrom_45 : decode cX0_seekFrom 45 = .ok (.iload 5, 2) := by decide +kernel
theorem dX0_seekFrom_47 : decode cX0_seekFrom 47 = .ok (.invokestatic 25, 3) := by decide +kernel
theorem dX0_seekFrom_50 : decode cX0_seekFrom 50 = .ok (.istore 6, 2) := by decide +kernel
theorem dX0_seekFrom_52 : decode cX0_seekFrom 52 = .ok (.aload_n 1, 1) := by decide +kernel
theorem dX0_seekFrom_53 : decode cX0_seekFrom 53 = .ok (.iload 6, 2) := by decide +kernel
theorem dX0_seekFrom_55 : decode cX0_seekFrom 55 = .ok (.invokevirtual 21, 3) := by decide +kernel
theorem dX0_seekFrom_58 : decode cX0_seekFrom 58 = .ok (.istore 7, 2) := by decide +kernel
theorem dX0_seekFrom_60 : decode cX0_seekFrom 60 = .ok (.iload 7, 2) := by decide +kernel
theorem dX0_seekFrom_62 : decode cX0_seekFrom 62 = .ok (.iconst (-1), 1) := by decide +kernel
theorem dX0_seekFrom_63 : decode cX0_seekFrom 63 = .ok (.if_icmp .eq 32, 3) := by decide +kernel
theorem dX0_seekFrom_66 : decode cX0_seekFrom 66 = .ok (.iload 4, 2) := by decide +kernel
theorem dX0_seekFrom_68 : decode cX0_seekFrom 68 = .ok (.iload 7, 2) := by decide +kernel
theorem dX0_seekFrom_70 : decode cX0_seekFrom 70 = .ok (.invokestatic 31, 3) := by decide +kernel
theorem dX0_seekFrom_73 : decode cX0_seekFrom 73 = .ok (.ifCond .eq 22, 3) := by decide +kernel
theorem dX0_seekFrom_76 : decode cX0_seekFrom 76 = .ok (.aload_n 0, 1) := by decide +kernel
theorem dX0_seekFrom_77 : decode cX0_seekFrom 77 = .ok (.iload_n 3, 1) := by decide +kernel
theorem dX0_seekFrom_78 : decode cX0_seekFrom 78 = .ok (.putfield 35, 3) := by decide +kernel
theorem dX0_seekFrom_81 : decode cX0_seekFrom 81 = .ok (.aload_n 0, 1) := by decide +kernel
theorem dX0_seekFrom_82 : decode cX0_seekFrom 82 = .ok (.iload 6, 2) := by decide +kernel
theorem dX0_seekFrom_84 : decode cX0_seekFrom 84 = .ok (.putfield 39, 3) := by decide +kernel
theorem dX0_seekFrom_87 : decode cX0_seekFrom 87 = .ok (.aload_n 0, 1) := by decide +kernel
theorem dX0_seekFrom_88 : decode cX0_seekFrom 88 = .ok (.iload 4, 2) := by decide +kernel
theorem dX0_seekFrom_90 : decode cX0_seekFrom 90 = .ok (.putfield 42, 3) := by decide +kernel
theorem dX0_seekFrom_93 : decode cX0_seekFrom 93 = .ok (.iconst 1, 1) := by decide +kernel
theorem dX0_seekFrom_94 : decode cX0_seekFrom 94 = .ok (.ireturn, 1) := by decide +kernel
theorem dX0_seekFrom_95 : decode cX0_seekFrom 95 = .ok (.iinc 3 1, 3) := by decide +kernel
theorem dX0_seekFrom_98 : decode cX0_seekFrom 98 = .ok (.goto (-92), 3) := by decide +kernel
theorem dX0_seekFrom_101 : decode cX0_seekFrom 101 = .ok (.iconst 0, 1) := by decide +kernel
theorem dX0_seekFrom_102 : decode cX0_seekFrom 102 = .ok (.ireturn, 1) := by decide +kernel
theorem dX0_seekNumbered_0 : decode cX0_seekNumbered 0 = .ok (.iload_n 2, 1) := by decide +kernel
theorem dX0_seekNumbered_1 : decode cX0_seekNumbered 1 = .ok (.ifCond .lt 10, 3) := by decide +kernel
theorem dX0_seekNumbered_4 : decode cX0_seekNumbered 4 = .ok (.iload_n 2, 1) := by decide +kernel
theorem dX0_seekNumbered_5 : decode cX0_seekNumbered 5 = .ok (.sipush 150, 3) := by decide +kernel
theorem dX0_seekNumbered_8 : decode cX0_seekNumbered 8 = .ok (.if_icmp .lt 5, 3) := by decide +kernel
theorem dX0_seekNumbered_11 : decode cX0_seekNumbered 11 = .ok (.iconst 0, 1) := by decide +kernel
theorem dX0_seekNumbered_12 : decode cX0_seekNumbered 12 = .ok (.ireturn, 1) := by decide +kernel
theorem dX0_seekNumbered_13 : decode cX0_seekNumbered 13 = .ok (.iconst 0, 1) := by decide +kernel
theorem dX0_seekNumbered_14 : decode cX0_seekNumbered 14 = .ok (.istore_n 3, 1) := by decide +kernel
theorem dX0_seekNumbered_15 : decode cX0_seekNumbered 15 = .ok (.iconst 0, 1) := by decide +kernel
theorem dX0_seekNumbered_16 : decode cX0_seekNumbered 16 = .ok (.istore 4, 2) := by decide +kernel
theorem dX0_seekNumbered_18 : decode cX0_seekNumbered 18 = .ok (.iload 4, 2) := by decide +kernel
theorem dX0_seekNumbered_20 : decode cX0_seekNumbered 20 = .ok (.iload_n 2, 1) := by decide +kernel
theorem dX0_seekNumbered_21 : decode cX0_seekNumbered 21 = .ok (.if_icmp .gt 27, 3) := by decide +kernel
theorem dX0_seekNumbered_24 : decode cX0_seekNumbered 24 = .ok (.aload_n 0, 1) := by decide +kernel
theorem dX0_seekNumbered_25 : decode cX0_seekNumbered 25 = .ok (.aload_n 1, 1) := by decide +kernel
theorem dX0_seekNumbered_26 : decode cX0_seekNumbered 26 = .ok (.iload_n 3, 1) := by decide +kernel
theorem dX0_seekNumbered_27 : decode cX0_seekNumbered 27 = .ok (.invokevirtual 45, 3) := by decide +kernel
theorem dX0_seekNumbered_30 : decode cX0_seekNumbered 30 = .ok (.ifCond .ne 5, 3) := by decide +kernel
theorem dX0_seekNumbered_33 : decode cX0_seekNumbered 33 = .ok (.iconst 0, 1) := by decide +kernel
theorem dX0_seekNumbered_34 : decode cX0_seekNumbered 34 = .ok (.ireturn, 1) := by decide +kernel
theorem dX0_seekNumbered_35 : decode cX0_seekNumbered 35 = .ok (.aload_n 0, 1) := by decide +kernel
theorem dX0_seekNumbered_36 : decode cX0_seekNumbered 36 = .ok (.getfield 35, 3) := by decide +kernel
theorem dX0_seekNumbered_39 : decode cX0_seekNumbered 39 = .ok (.iconst 1, 1) := by decide +kernel
theorem dX0_seekNumbered_40 : decode cX0_seekNumbered 40 = .ok (.iadd, 1) := by decide +kernel
theorem dX0_seekNumbered_41 : decode cX0_seekNumbered 41 = .ok (.istore_n 3, 1) := by decide +kernel
theorem dX0_seekNumbered_42 : decode cX0_seekNumbered 42 = .ok (.iinc 4 1, 3) := by decide +kernel
theorem dX0_seekNumbered_45 : decode cX0_seekNumbered 45 = .ok (.goto (-27), 3) := by decide +kernel
theorem dX0_seekNumbered_48 : decode cX0_seekNumbered 48 = .ok (.iconst 1, 1) := by decide +kernel
theorem dX0_seekNumbered_49 : decode cX0_seekNumbered 49 = .ok (.ireturn, 1) := by decide +kernel
theorem dX0_endOfRow_0 : decode cX0_endOfRow 0 = .ok (.iload_n 1, 1) := by decide +kernel
theorem dX0_endOfRow_1 : decode cX0_endOfRow 1 = .ok (.istore_n 3, 1) := by decide +kernel
theorem dX0_endOfRow_2 : decode cX0_endOfRow 2 = .ok (.iload_n 3, 1) := by decide +kernel
theorem dX0_endOfRow_3 : decode cX0_endOfRow 3 = .ok (.aload_n 0, 1) := by decide +kernel
theorem dX0_endOfRow_4 : decode cX0_endOfRow 4 = .ok (.invokevirtual 15, 3) := by decide +kernel
theorem dX0_endOfRow_7 : decode cX0_endOfRow 7 = .ok (.if_icmp .ge 18, 3) := by decide +kernel
theorem dX0_endOfRow_10 : decode cX0_endOfRow 10 = .ok (.aload_n 0, 1) := by decide +kernel
theorem dX0_endOfRow_11 : decode cX0_endOfRow 11 = .ok (.iload_n 3, 1) := by decide +kernel
theorem dX0_endOfRow_12 : decode cX0_endOfRow 12 = .ok (.invokevirtual 21, 3) := by decide +kernel
theorem dX0_endOfRow_15 : decode cX0_endOfRow 15 = .ok (.iload_n 2, 1) := by decide +kernel
theorem dX0_endOfRow_16 : decode cX0_endOfRow 16 = .ok (.if_icmp .ne 9, 3) := by decide +kernel
theorem dX0_endOfRow_19 : decode cX0_endOfRow 19 = .ok (.iinc 3 1, 3) := by decide +kernel
theorem dX0_endOfRow_22 : decode cX0_endOfRow 22 = .ok (.goto (-20), 3) := by decide +kernel
theorem dX0_endOfRow_25 : decode cX0_endOfRow 25 = .ok (.iload_n 3, 1) := by decide +kernel
theorem dX0_endOfRow_26 : decode cX0_endOfRow 26 = .ok (.ireturn, 1) := by decide +kernel
theorem dX1_init_0 : decode cX1_init 0 = .ok (.aload_n 0, 1) := by decide +kernel
theorem dX1_init_1 : decode cX1_init 1 = .ok (.invokespecial 3, 3) := by decide +kernel
theorem dX1_init_4 : decode cX1_init 4 = .ok (.aload_n 0, 1) := by decide +kernel
theorem dX1_init_5 : decode cX1_init 5 = .ok (.sipush 150, 3) := by decide +kernel
theorem dX1_init_8 : decode cX1_init 8 = .ok (.newarray .int, 2) := by decide +kernel
theorem dX1_init_10 : decode cX1_init 10 = .ok (.putfield 9, 3) := by decide +kernel
theorem dX1_init_13 : decode cX1_init 13 = .ok (.aload_n 0, 1) := by decide +kernel
theorem dX1_init_14 : decode cX1_init 14 = .ok (.sipush 240, 3) := by decide +kernel
theorem dX1_init_17 : decode cX1_init 17 = .ok (.newarray .int, 2) := by decide +kernel
theorem dX1_init_19 : decode cX1_init 19 = .ok (.putfield 15, 3) := by decide +kernel
theorem dX1_init_22 : decode cX1_init 22 = .ok (.aload_n 0, 1) := by decide +kernel
theorem dX1_init_23 : decode cX1_init 23 = .ok (.invokevirtual 18, 3) := by decide +kernel
theorem dX1_init_26 : decode cX1_init 26 = .ok (.return_, 1) := by decide +kernel
theorem dX1_clear_0 : decode cX1_clear 0 = .ok (.aload_n 0, 1) := by decide +kernel
theorem dX1_clear_1 : decode cX1_clear 1 = .ok (.iconst 0, 1) := by decide +kernel
theorem dX1_clear_2 : decode cX1_clear 2 = .ok (.putfield 21, 3) := by decide +kernel
theorem dX1_clear_5 : decode cX1_clear 5 = .ok (.aload_n 0, 1) := by decide +kernel
theorem dX1_clear_6 : decode cX1_clear 6 = .ok (.getfield 15, 3) := by decide +kernel
theorem dX1_clear_9 : decode cX1_clear 9 = .ok (.iconst (-1), 1) := by decide +kernel
theorem dX1_clear_10 : decode cX1_clear 10 = .ok (.invokestatic 25, 3) := by decide +kernel
theorem dX1_clear_13 : decode cX1_clear 13 = .ok (.return_, 1) := by decide +kernel
theorem dX1_copyFrom_0 : decode cX1_copyFrom 0 = .ok (.aload_n 1, 1) := by decide +kernel
theorem dX1_copyFrom_1 : decode cX1_copyFrom 1 = .ok (.getfield 9, 3) := by decide +kernel
theorem dX1_copyFrom_4 : decode cX1_copyFrom 4 = .ok (.iconst 0, 1) := by decide +kernel
theorem dX1_copyFrom_5 : decode cX1_copyFrom 5 = .ok (.aload_n 0, 1) := by decide +kernel
theorem dX1_copyFrom_6 : decode cX1_copyFrom 6 = .ok (.getfield 9, 3) := by decide +kernel
theorem dX1_copyFrom_9 : decode cX1_copyFrom 9 = .ok (.iconst 0, 1) := by decide +kernel
theorem dX1_copyFrom_10 : decode cX1_copyFrom 10 = .ok (.sipush 150, 3) := by decide +kernel
theorem dX1_copyFrom_13 : decode cX1_copyFrom 13 = .ok (.invokestatic 31, 3) := by decide +kernel
theorem dX1_copyFrom_16 : decode cX1_copyFrom 16 = .ok (.aload_n 1, 1) := by decide +kernel
theorem dX1_copyFrom_17 : decode cX1_copyFrom 17 = .ok (.getfield 15, 3) := by decide +kernel
theorem dX1_copyFrom_20 : decode cX1_copyFrom 20 = .ok (.iconst 0, 1) := by decide +kernel
theorem dX1_copyFrom_21 : decode cX1_copyFrom 21 = .ok (.aload_n 0, 1) := by decide +kernel
theorem dX1_copyFrom_22 : decode cX1_copyFrom 22 = .ok (.getfield 15, 3) := by decide +kernel
theorem dX1_copyFrom_25 : decode cX1_copyFrom 25 = .ok (.iconst 0, 1) := by decide +kernel
theorem dX1_copyFrom_26 : decode cX1_copyFrom 26 = .ok (.sipush 240, 3) := by decide +kernel
theorem dX1_copyFrom_29 : decode cX1_copyFrom 29 = .ok (.invokestatic 31, 3) := by decide +kernel
theorem dX1_copyFrom_32 : decode cX1_copyFrom 32 = .ok (.aload_n 0, 1) := by decide +kernel
theorem dX1_copyFrom_33 : decode cX1_copyFrom 33 = .ok (.aload_n 1, 1) := by decide +kernel
theorem dX1_copyFrom_34 : decode cX1_copyFrom 34 = .ok (.getfield 21, 3) := by decide +kernel
theorem dX1_copyFrom_37 : decode cX1_copyFrom 37 = .ok (.putfield 21, 3) := by decide +kernel
theorem dX1_copyFrom_40 : decode cX1_copyFrom 40 = .ok (.return_, 1) := by decide +kernel
theorem dX1_length_0 : decode cX1_length 0 = .ok (.aload_n 0, 1) := by decide +kernel
theorem dX1_length_1 : decode cX1_length 1 = .ok (.getfield 21, 3) := by decide +kernel
theorem dX1_length_4 : decode cX1_length 4 = .ok (.ireturn, 1) := by decide +kernel
theorem dX1_append_0 : decode cX1_append 0 = .ok (.iload_n 1, 1) := by decide +kernel
theorem dX1_append_1 : decode cX1_append 1 = .ok (.invokestatic 37, 3) := by decide +kernel
theorem dX1_append_4 : decode cX1_append 4 = .ok (.ifCond .eq 30, 3) := by decide +kernel
theorem dX1_append_7 : decode cX1_append 7 = .ok (.aload_n 0, 1) := by decide +kernel
theorem dX1_append_8 : decode cX1_append 8 = .ok (.getfield 15, 3) := by decide +kernel
theorem dX1_append_11 : decode cX1_append 11 = .ok (.iload_n 1, 1) := by decide +kernel
theorem dX1_append_12 : decode cX1_append 12 = .ok (.iaload, 1) := by decide +kernel
theorem dX1_append_13 : decode cX1_append 13 = .ok (.iconst (-1), 1) := by decide +kernel
theorem dX1_append_14 : decode cX1_append 14 = .ok (.if_icmp .ne 20, 3) := by decide +kernel
theorem dX1_append_17 : decode cX1_append 17 = .ok (.aload_n 0, 1) := by decide +kernel
theorem dX1_append_18 : decode cX1_append 18 = .ok (.getfield 21, 3) := by decide +kernel
theorem dX1_append_21 : decode cX1_append 21 = .ok (.ifCond .lt 13, 3) := by decide +kernel
theorem dX1_append_24 : decode cX1_append 24 = .ok (.aload_n 0, 1) := by decide +kernel
theorem dX1_append_25 : decode cX1_append 25 = .ok (.getfield 21, 3) := by decide +kernel
theorem dX1_append_28 : decode cX1_append 28 = .ok (.sipush 150, 3) := by decide +kernel
theorem dX1_append_31 : decode cX1_append 31 = .ok (.if_icmp .lt 5, 3) := by decide +kernel
theorem dX1_append_34 : decode cX1_append 34 = .ok (.iconst 0, 1) := by decide +kernel
theorem dX1_append_35 : decode cX1_append 35 = .ok (.ireturn, 1) := by decide +kernel
theorem dX1_append_36 : decode cX1_append 36 = .ok (.aload_n 0, 1) := by decide +kernel
theorem dX1_append_37 : decode cX1_append 37 = .ok (.getfield 9, 3) := by decide +kernel
theorem dX1_append_40 : decode cX1_append 40 = .ok (.aload_n 0, 1) := by decide +kernel
theorem dX1_append_41 : decode cX1_append 41 = .ok (.getfield 21, 3) := by decide +kernel
theorem dX1_append_44 : decode cX1_append 44 = .ok (.iload_n 1, 1) := by decide +kernel
theorem dX1_append_45 : decode cX1_append 45 = .ok (.iastore, 1) := by decide +kernel
theorem dX1_append_46 : decode cX1_append 46 = .ok (.aload_n 0, 1) := by decide +kernel
theorem dX1_append_47 : decode cX1_append 47 = .ok (.getfield 15, 3) := by decide +kernel
theorem dX1_append_50 : decode cX1_append 50 = .ok (.iload_n 1, 1) := by decide +kernel
theorem dX1_append_51 : decode cX1_append 51 = .ok (.aload_n 0, 1) := by decide +kernel
theorem dX1_append_52 : decode cX1_append 52 = .ok (.getfield 21, 3) := by decide +kernel
theorem dX1_append_55 : decode cX1_append 55 = .ok (.iastore, 1) := by decide +kernel
theorem dX1_append_56 : decode cX1_append 56 = .ok (.aload_n 0, 1) := by decide +kernel
theorem dX1_append_57 : decode cX1_append 57 = .ok (.dup, 1) := by decide +kernel
theorem dX1_append_58 : decode cX1_append 58 = .ok (.getfield 21, 3) := by decide +kernel
theorem dX1_append_61 : decode cX1_append 61 = .ok (.iconst 1, 1) := by decide +kernel
theorem dX1_append_62 : decode cX1_append 62 = .ok (.iadd, 1) := by decide +kernel
theorem dX1_append_63 : decode cX1_append 63 = .ok (.putfield 21, 3) := by decide +kernel
theorem dX1_append_66 : decode cX1_append 66 = .ok (.iconst 1, 1) := by decide +kernel
theorem dX1_append_67 : decode cX1_append 67 = .ok (.ireturn, 1) := by decide +kernel
theorem dX1_cellOf_0 : decode cX1_cellOf 0 = .ok (.iload_n 1, 1) := by decide +kernel
theorem dX1_cellOf_1 : decode cX1_cellOf 1 = .ok (.ifCond .lt 27, 3) := by decide +kernel
theorem dX1_cellOf_4 : decode cX1_cellOf 4 = .ok (.iload_n 1, 1) := by decide +kernel
theorem dX1_cellOf_5 : decode cX1_cellOf 5 = .ok (.aload_n 0, 1) := by decide +kernel
theorem dX1_cellOf_6 : decode cX1_cellOf 6 = .ok (.getfield 21, 3) := by decide +kernel
theorem dX1_cellOf_9 : decode cX1_cellOf 9 = .ok (.if_icmp .ge 19, 3) := by decide +kernel
theorem dX1_cellOf_12 : decode cX1_cellOf 12 = .ok (.iload_n 1, 1) := by decide +kernel
theorem dX1_cellOf_13 : decode cX1_cellOf 13 = .ok (.sipush 150, 3) := by decide +kernel
theorem dX1_cellOf_16 : decode cX1_cellOf 16 = .ok (.if_icmp .ge 12, 3) := by decide +kernel
theorem dX1_cellOf_19 : decode cX1_cellOf 19 = .ok (.aload_n 0, 1) := by decide +kernel
theorem dX1_cellOf_20 : decode cX1_cellOf 20 = .ok (.getfield 9, 3) := by decide +kernel
theorem dX1_cellOf_23 : decode cX1_cellOf 23 = .ok (.iload_n 1, 1) := by decide +kernel
theorem dX1_cellOf_24 : decode cX1_cellOf 24 = .ok (.iaload, 1) := by decide +kernel
theorem dX1_cellOf_25 : decode cX1_cellOf 25 = .ok (.goto 4, 3) := by decide +kernel
theorem dX1_cellOf_28 : decode cX1_cellOf 28 = .ok (.iconst (-1), 1) := by decide +kernel
theorem dX1_cellOf_29 : decode cX1_cellOf 29 = .ok (.ireturn, 1) := by decide +kernel
theorem dX1_numberOf_0 : decode cX1_numberOf 0 = .ok (.iload_n 1, 1) := by decide +kernel
theorem dX1_numberOf_1 : decode cX1_numberOf 1 = .ok (.invokestatic 37, 3) := by decide +kernel
theorem dX1_numberOf_4 : decode cX1_numberOf 4 = .ok (.ifCond .eq 12, 3) := by decide +kernel
theorem dX1_numberOf_7 : decode cX1_numberOf 7 = .ok (.aload_n 0, 1) := by decide +kernel
theorem dX1_numberOf_8 : decode cX1_numberOf 8 = .ok (.getfield 15, 3) := by decide +kernel
theorem dX1_numberOf_11 : decode cX1_numberOf 11 = .ok (.iload_n 1, 1) := by decide +kernel
theorem dX1_numberOf_12 : decode cX1_numberOf 12 = .ok (.iaload, 1) := by decide +kernel
theorem dX1_numberOf_13 : decode cX1_numberOf 13 = .ok (.goto 4, 3) := by decide +kernel
theorem dX1_numberOf_16 : decode cX1_numberOf 16 = .ok (.iconst (-1), 1) := by decide +kernel
theorem dX1_numberOf_17 : decode cX1_numberOf 17 = .ok (.ireturn, 1) := by decide +kernel
theorem dX1_numberBeside_0 : decode cX1_numberBeside 0 = .ok (.aload_n 0, 1) := by decide +kernel
theorem dX1_numberBeside_1 : decode cX1_numberBeside 1 = .ok (.aload_n 0, 1) := by decide +kernel
theorem dX1_numberBeside_2 : decode cX1_numberBeside 2 = .ok (.iload_n 1, 1) := by decide +kernel
theorem dX1_numberBeside_3 : decode cX1_numberBeside 3 = .ok (.invokevirtual 41, 3) := by decide +kernel
theorem dX1_numberBeside_6 : decode cX1_numberBeside 6 = .ok (.iload_n 2, 1) := by decide +kernel
theorem dX1_numberBeside_7 : decode cX1_numberBeside 7 = .ok (.invokestatic 45, 3) := by decide +kernel
theorem dX1_numberBeside_10 : decode cX1_numberBeside 10 = .ok (.invokevirtual 49, 3) := by decide +kernel
theorem dX1_numberBeside_13 : decode cX1_numberBeside 13 = .ok (.ireturn, 1) := by decide +kernel
theorem dX1_nextBeside_0 : decode cX1_nextBeside 0 = .ok (.iconst (-1), 1) := by decide +kernel
theorem dX1_nextBeside_1 : decode cX1_nextBeside 1 = .ok (.istore_n 3, 1) := by decide +kernel
theorem dX1_nextBeside_2 : decode cX1_nextBeside 2 = .ok (.iconst 0, 1) := by decide +kernel
theorem dX1_nextBeside_3 : decode cX1_nextBeside 3 = .ok (.istore 4, 2) := by decide +kernel
theorem dX1_nextBeside_5 : decode cX1_nextBeside 5 = .ok (.iload 4, 2) := by decide +kernel
theorem dX1_nextBeside_7 : decode cX1_nextBeside 7 = .ok (.iconst 4, 1) := by decide +kernel
theorem dX1_nextBeside_8 : decode cX1_nextBeside 8 = .ok (.if_icmp .ge 38, 3) := by decide +kernel
theorem dX1_nextBeside_11 : decode cX1_nextBeside 11 = .ok (.aload_n 0, 1) := by decide +kernel
theorem dX1_nextBeside_12 : decode cX1_nextBeside 12 = .ok (.iload_n 1, 1) := by decide +kernel
theorem dX1_nextBeside_13 : decode cX1_nextBeside 13 = .ok (.iload 4, 2) := by decide +kernel
theorem dX1_nextBeside_15 : decode cX1_nextBeside 15 = .ok (.invokevirtual 52, 3) := by decide +kernel
theorem dX1_nextBeside_18 : decode cX1_nextBeside 18 = .ok (.istore 5, 2) := by decide +kernel
theorem dX1_nextBeside_20 : decode cX1_nextBeside 20 = .ok (.iload 5, 2) := by decide +kernel
theorem dX1_nextBeside_22 : decode cX1_nextBeside 22 = .ok (.iload_n 2, 1) := by decide +kernel
theorem dX1_nextBeside_23 : decode cX1_nextBeside 23 = .ok (.if_icmp .le 17, 3) := by decide +kernel
theorem dX1_nextBeside_26 : decode cX1_nextBeside 26 = .ok (.iload_n 3, 1) := by decide +kernel
theorem dX1_nextBeside_27 : decode cX1_nextBeside 27 = .ok (.iconst (-1), 1) := by decide +kernel
theorem dX1_nextBeside_28 : decode cX1_nextBeside 28 = .ok (.if_icmp .eq 9, 3) := by decide +kernel
theorem dX1_nextBeside_31 : decode cX1_nextBeside 31 = .ok (.iload 5, 2) := by decide +kernel
theorem dX1_nextBeside_33 : decode cX1_nextBeside 33 = .ok (.iload_n 3, 1) := by decide +kernel
theorem dX1_nextBeside_34 : decode cX1_nextBeside 34 = .ok (.if_icmp .ge 6, 3) := by decide +kernel
theorem dX1_nextBeside_37 : decode cX1_nextBeside 37 = .ok (.iload 5, 2) := by decide +kernel
theorem dX1_nextBeside_39 : decode cX1_nextBeside 39 = .ok (.istore_n 3, 1) := by decide +kernel
theorem dX1_nextBeside_40 : decode cX1_nextBeside 40 = .ok (.iinc 4 1, 3) := by decide +kernel
theorem dX1_nextBeside_43 : decode cX1_nextBeside 43 = .ok (.goto (-38), 3) := by decide +kernel
theorem dX1_nextBeside_46 : decode cX1_nextBeside 46 = .ok (.iload_n 3, 1) := by decide +kernel
theorem dX1_nextBeside_47 : decode cX1_nextBeside 47 = .ok (.ireturn, 1) := by decide +kernel
theorem dX1_wayFrom_0 : decode cX1_wayFrom 0 = .ok (.aload_n 0, 1) := by decide +kernel
theorem dX1_wayFrom_1 : decode cX1_wayFrom 1 = .ok (.iload_n 1, 1) := by decide +kernel
theorem dX1_wayFrom_2 : decode cX1_wayFrom 2 = .ok (.invokevirtual 41, 3) := by decide +kernel
theorem dX1_wayFrom_5 : decode cX1_wayFrom 5 = .ok (.istore_n 2, 1) := by decide +kernel
theorem dX1_wayFrom_6 : decode cX1_wayFrom 6 = .ok (.aload_n 0, 1) := by decide +kernel
theorem dX1_wayFrom_7 : decode cX1_wayFrom 7 = .ok (.iload_n 1, 1) := by decide +kernel
theorem dX1_wayFrom_8 : decode cX1_wayFrom 8 = .ok (.iconst 1, 1) := by decide +kernel
theorem dX1_wayFrom_9 : decode cX1_wayFrom 9 = .ok (.iadd, 1) := by decide +kernel
theorem dX1_wayFrom_10 : decode cX1_wayFrom 10 = .ok (.invokevirtual 41, 3) := by decide +kernel
theorem dX1_wayFrom_13 : decode cX1_wayFrom 13 = .ok (.istore_n 3, 1) := by decide +kernel
theorem dX1_wayFrom_14 : decode cX1_wayFrom 14 = .ok (.iload_n 2, 1) := by decide +kernel
theorem dX1_wayFrom_15 : decode cX1_wayFrom 15 = .ok (.iconst (-1), 1) := by decide +kernel
theorem dX1_wayFrom_16 : decode cX1_wayFrom 16 = .ok (.if_icmp .eq 8, 3) := by decide +kernel
theorem dX1_wayFrom_19 : decode cX1_wayFrom 19 = .ok (.iload_n 3, 1) := by decide +kernel
theorem dX1_wayFrom_20 : decode cX1_wayFrom 20 = .ok (.iconst (-1), 1) := by decide +kernel
theorem dX1_wayFrom_21 : decode cX1_wayFrom 21 = .ok (.if_icmp .ne 5, 3) := by decide +kernel
theorem dX1_wayFrom_24 : decode cX1_wayFrom 24 = .ok (.iconst (-1), 1) := by decide +kernel
theorem dX1_wayFrom_25 : decode cX1_wayFrom 25 = .ok (.ireturn, 1) := by decide +kernel
theorem dX1_wayFrom_26 : decode cX1_wayFrom 26 = .ok (.iload_n 3, 1) := by decide +kernel
theorem dX1_wayFrom_27 : decode cX1_wayFrom 27 = .ok (.iload_n 2, 1) := by decide +kernel
theorem dX1_wayFrom_28 : decode cX1_wayFrom 28 = .ok (.isub, 1) := by decide +kernel
theorem dX1_wayFrom_29 : decode cX1_wayFrom 29 = .ok (.lookupswitch 41 #[(-1, 39), (1, 35), (20, 37)], 35) := by decide +kernel
theorem dX1_wayFrom_64 : decode cX1_wayFrom 64 = .ok (.iconst 0, 1) := by decide +kernel
theorem dX1_wayFrom_65 : decode cX1_wayFrom 65 = .ok (.ireturn, 1) := by decide +kernel
theorem dX1_wayFrom_66 : decode cX1_wayFrom 66 = .ok (.iconst 1, 1) := by decide +kernel
theorem dX1_wayFrom_67 : decode cX1_wayFrom 67 = .ok (.ireturn, 1) := by decide +kernel
theorem dX1_wayFrom_68 : decode cX1_wayFrom 68 = .ok (.iconst 2, 1) := by decide +kernel
theorem dX1_wayFrom_69 : decode cX1_wayFrom 69 = .ok (.ireturn, 1) := by decide +kernel
theorem dX1_wayFrom_70 : decode cX1_wayFrom 70 = .ok (.iconst 3, 1) := by decide +kernel
theorem dX1_wayFrom_71 : decode cX1_wayFrom 71 = .ok (.ireturn, 1) := by decide +kernel
theorem dX1_winding_0 : decode cX1_winding 0 = .ok (.aload_n 0, 1) := by decide +kernel
theorem dX1_winding_1 : decode cX1_winding 1 = .ok (.iconst 0, 1) := by decide +kernel
theorem dX1_winding_2 : decode cX1_winding 2 = .ok (.invokevirtual 41, 3) := by decide +kernel
theorem dX1_winding_5 : decode cX1_winding 5 = .ok (.istore_n 1, 1) := by decide +kernel
theorem dX1_winding_6 : decode cX1_winding 6 = .ok (.aload_n 0, 1) := by decide +kernel
theorem dX1_winding_7 : decode cX1_winding 7 = .ok (.aload_n 0, 1) := by decide +kernel
theorem dX1_winding_8 : decode cX1_winding 8 = .ok (.getfield 21, 3) := by decide +kernel
theorem dX1_winding_11 : decode cX1_winding 11 = .ok (.iconst 1, 1) := by decide +kernel
theorem dX1_winding_12 : decode cX1_winding 12 = .ok (.isub, 1) := by decide +kernel
theorem dX1_winding_13 : decode cX1_winding 13 = .ok (.invokevirtual 41, 3) := by decide +kernel
theorem dX1_winding_16 : decode cX1_winding 16 = .ok (.istore_n 2, 1) := by decide +kernel
theorem dX1_winding_17 : decode cX1_winding 17 = .ok (.iload_n 2, 1) := by decide +kernel
theorem dX1_winding_18 : decode cX1_winding 18 = .ok (.bipush 20, 2) := by decide +kernel
theorem dX1_winding_20 : decode cX1_winding 20 = .ok (.irem, 1) := by decide +kernel
theorem dX1_winding_21 : decode cX1_winding 21 = .ok (.iload_n 1, 1) := by decide +kernel
theorem dX1_winding_22 : decode cX1_winding 22 = .ok (.bipush 20, 2) := by decide +kernel
theorem dX1_winding_24 : decode cX1_winding 24 = .ok (.irem, 1) := by decide +kernel
theorem dX1_winding_25 : decode cX1_winding 25 = .ok (.isub, 1) := by decide +kernel
theorem dX1_winding_26 : decode cX1_winding 26 = .ok (.invokestatic 55, 3) := by decide +kernel
theorem dX1_winding_29 : decode cX1_winding 29 = .ok (.iload_n 2, 1) := by decide +kernel
theorem dX1_winding_30 : decode cX1_winding 30 = .ok (.bipush 20, 2) := by decide +kernel
theorem dX1_winding_32 : decode cX1_winding 32 = .ok (.idiv, 1) := by decide +kernel
theorem dX1_winding_33 : decode cX1_winding 33 = .ok (.iload_n 1, 1) := by decide +kernel
theorem dX1_winding_34 : decode cX1_winding 34 = .ok (.bipush 20, 2) := by decide +kernel
theorem dX1_winding_36 : decode cX1_winding 36 = .ok (.idiv, 1) := by decide +kernel
theorem dX1_winding_37 : decode cX1_winding 37 = .ok (.isub, 1) := by decide +kernel
theorem dX1_winding_38 : decode cX1_winding 38 = .ok (.invokestatic 55, 3) := by decide +kernel
theorem dX1_winding_41 : decode cX1_winding 41 = .ok (.iadd, 1) := by decide +kernel
theorem dX1_winding_42 : decode cX1_winding 42 = .ok (.istore_n 3, 1) := by decide +kernel
theorem dX1_winding_43 : decode cX1_winding 43 = .ok (.iload_n 3, 1) := by decide +kernel
theorem dX1_winding_44 : decode cX1_winding 44 = .ok (.ifCond .ne 8, 3) := by decide +kernel
theorem dX1_winding_47 : decode cX1_winding 47 = .ok (.bipush (-6), 2) := by decide +kernel
theorem dX1_winding_49 : decode cX1_winding 49 = .ok (.goto 15, 3) := by decide +kernel
theorem dX1_winding_52 : decode cX1_winding 52 = .ok (.sipush 1000, 3) := by decide +kernel
theorem dX1_winding_55 : decode cX1_winding 55 = .ok (.aload_n 0, 1) := by decide +kernel
theorem dX1_winding_56 : decode cX1_winding 56 = .ok (.getfield 21, 3) := by decide +kernel
theorem dX1_winding_59 : decode cX1_winding 59 = .ok (.iconst 1, 1) := by decide +kernel
theorem dX1_winding_60 : decode cX1_winding 60 = .ok (.isub, 1) := by decide +kernel
theorem dX1_winding_61 : decode cX1_winding 61 = .ok (.imul, 1) := by decide +kernel
theorem dX1_winding_62 : decode cX1_winding 62 = .ok (.iload_n 3, 1) := by decide +kernel
theorem dX1_winding_63 : decode cX1_winding 63 = .ok (.idiv, 1) := by decide +kernel
theorem dX1_winding_64 : decode cX1_winding 64 = .ok (.ireturn, 1) := by decide +kernel
theorem dX1_bulge_0 : decode cX1_bulge 0 = .ok (.iload_n 1, 1) := by decide +kernel
theorem dX1_bulge_1 : decode cX1_bulge 1 = .ok (.ifCond .lt 28, 3) := by decide +kernel
theorem dX1_bulge_4 : decode cX1_bulge 4 = .ok (.iload_n 2, 1) := by decide +kernel
theorem dX1_bulge_5 : decode cX1_bulge 5 = .ok (.iload_n 1, 1) := by decide +kernel
theorem dX1_bulge_6 : decode cX1_bulge 6 = .ok (.if_icmp .le 23, 3) := by decide +kernel
theorem dX1_bulge_9 : decode cX1_bulge 9 = .ok (.iload_n 2, 1) := by decide +kernel
theorem dX1_bulge_10 : decode cX1_bulge 10 = .ok (.aload_n 0, 1) := by decide +kernel
theorem dX1_bulge_11 : decode cX1_bulge 11 = .ok (.getfield 21, 3) := by decide +kernel
theorem dX1_bulge_14 : decode cX1_bulge 14 = .ok (.if_icmp .ge 15, 3) := by decide +kernel
theorem dX1_bulge_17 : decode cX1_bulge 17 = .ok (.aload_n 0, 1) := by decide +kernel
theorem dX1_bulge_18 : decode cX1_bulge 18 = .ok (.getfield 21, 3) := by decide +kernel
theorem dX1_bulge_21 : decode cX1_bulge 21 = .ok (.iconst 2, 1) := by decide +kernel
theorem dX1_bulge_22 : decode cX1_bulge 22 = .ok (.iadd, 1) := by decide +kernel
theorem dX1_bulge_23 : decode cX1_bulge 23 = .ok (.sipush 150, 3) := by decide +kernel
theorem dX1_bulge_26 : decode cX1_bulge 26 = .ok (.if_icmp .le 4, 3) := by decide +kernel
theorem dX1_bulge_29 : decode cX1_bulge 29 = .ok (.return_, 1) := by decide +kernel
theorem dX1_bulge_30 : decode cX1_bulge 30 = .ok (.aload_n 0, 1) := by decide +kernel
theorem dX1_bulge_31 : decode cX1_bulge 31 = .ok (.iload_n 1, 1) := by decide +kernel
theorem dX1_bulge_32 : decode cX1_bulge 32 = .ok (.iload_n 2, 1) := by decide +kernel
theorem dX1_bulge_33 : decode cX1_bulge 33 = .ok (.invokevirtual 60, 3) := by decide +kernel
theorem dX1_bulge_36 : decode cX1_bulge 36 = .ok (.aload_n 0, 1) := by decide +kernel
theorem dX1_bulge_37 : decode cX1_bulge 37 = .ok (.getfield 21, 3) := by decide +kernel
theorem dX1_bulge_40 : decode cX1_bulge 40 = .ok (.iconst 1, 1) := by decide +kernel
theorem dX1_bulge_41 : decode cX1_bulge 41 = .ok (.isub, 1) := by decide +kernel
theorem dX1_bulge_42 : decode cX1_bulge 42 = .ok (.istore 4, 2) := by decide +kernel
theorem dX1_bulge_44 : decode cX1_bulge 44 = .ok (.iload 4, 2) := by decide +kernel
theorem dX1_bulge_46 : decode cX1_bulge 46 = .ok (.iload_n 2, 1) := by decide +kernel
theorem dX1_bulge_47 : decode cX1_bulge 47 = .ok (.if_icmp .lt 25, 3) := by decide +kernel
theorem dX1_bulge_50 : decode cX1_bulge 50 = .ok (.aload_n 0, 1) := by decide +kernel
theorem dX1_bulge_51 : decode cX1_bulge 51 = .ok (.getfield 9, 3) := by decide +kernel
theorem dX1_bulge_54 : decode cX1_bulge 54 = .ok (.iload 4, 2) := by decide +kernel
theorem dX1_bulge_56 : decode cX1_bulge 56 = .ok (.iconst 2, 1) := by decide +kernel
theorem dX1_bulge_57 : decode cX1_bulge 57 = .ok (.iadd, 1) := by decide +kernel
theorem dX1_bulge_58 : decode cX1_bulge 58 = .ok (.aload_n 0, 1) := by decide +kernel
theorem dX1_bulge_59 : decode cX1_bulge 59 = .ok (.getfield 9, 3) := by decide +kernel
theorem dX1_bulge_62 : decode cX1_bulge 62 = .ok (.iload 4, 2) := by decide +kernel
theorem dX1_bulge_64 : decode cX1_bulge 64 = .ok (.iaload, 1) := by decide +kernel
theorem dX1_bulge_65 : decode cX1_bulge 65 = .ok (.iastore, 1) := by decide +kernel
theorem dX1_bulge_66 : decode cX1_bulge 66 = .ok (.iinc 4 (-1), 3) := by decide +kernel
theorem dX1_bulge_69 : decode cX1_bulge 69 = .ok (.goto (-25), 3) := by decide +kernel
theorem dX1_bulge_72 : decode cX1_bulge 72 = .ok (.iload_n 2, 1) := by decide +kernel
theorem dX1_bulge_73 : decode cX1_bulge 73 = .ok (.istore 4, 2) := by decide +kernel
theorem dX1_bulge_75 : decode cX1_bulge 75 = .ok (.iload 4, 2) := by decide +kernel
theorem dX1_bulge_77 : decode cX1_bulge 77 = .ok (.iload_n 1, 1) := by decide +kernel
theorem dX1_bulge_78 : decode cX1_bulge 78 = .ok (.if_icmp .lt 29, 3) := by decide +kernel
theorem dX1_bulge_81 : decode cX1_bulge 81 = .ok (.aload_n 0, 1) := by decide +kernel
theorem dX1_bulge_82 : decode cX1_bulge 82 = .ok (.getfield 9, 3) := by decide +kernel
theorem dX1_bulge_85 : decode cX1_bulge 85 = .ok (.iload 4, 2) := by decide +kernel
theorem dX1_bulge_87 : decode cX1_bulge 87 = .ok (.iconst 1, 1) := by decide +kernel
theorem dX1_bulge_88 : decode cX1_bulge 88 = .ok (.iadd, 1) := by decide +kernel
theorem dX1_bulge_89 : decode cX1_bulge 89 = .ok (.aload_n 0, 1) := by decide +kernel
theorem dX1_bulge_90 : decode cX1_bulge 90 = .ok (.getfield 9, 3) := by decide +kernel
theorem dX1_bulge_93 : decode cX1_bulge 93 = .ok (.iload 4, 2) := by decide +kernel
theorem dX1_bulge_95 : decode cX1_bulge 95 = .ok (.iaload, 1) := by decide +kernel
theorem dX1_bulge_96 : decode cX1_bulge 96 = .ok (.iload_n 3, 1) := by decide +kernel
theorem dX1_bulge_97 : decode cX1_bulge 97 = .ok (.invokestatic 45, 3) := by decide +kernel
theorem dX1_bulge_100 : decode cX1_bulge 100 = .ok (.iastore, 1) := by decide +kernel
theorem dX1_bulge_101 : decode cX1_bulge 101 = .ok (.iinc 4 (-1), 3) := by decide +kernel
theorem dX1_bulge_104 : decode cX1_bulge 104 = .ok (.goto (-29), 3) := by decide +kernel
theorem dX1_bulge_107 : decode cX1_bulge 107 = .ok (.aload_n 0, 1) := by decide +kernel
theorem dX1_bulge_108 : decode cX1_bulge 108 = .ok (.dup, 1) := by decide +kernel
theorem dX1_bulge_109 : decode cX1_bulge 109 = .ok (.getfield 21, 3) := by decide +kernel
theorem dX1_bulge_112 : decode cX1_bulge 112 = .ok (.iconst 2, 1) := by decide +kernel
theorem dX1_bulge_113 : decode cX1_bulge 113 = .ok (.iadd, 1) := by decide +kernel
theorem dX1_bulge_114 : decode cX1_bulge 114 = .ok (.putfield 21, 3) := by decide +kernel
theorem dX1_bulge_117 : decode cX1_bulge 117 = .ok (.aload_n 0, 1) := by decide +kernel
theorem dX1_bulge_118 : decode cX1_bulge 118 = .ok (.iload_n 1, 1) := by decide +kernel
theorem dX1_bulge_119 : decode cX1_bulge 119 = .ok (.invokevirtual 64, 3) := by decide +kernel
theorem dX1_bulge_122 : decode cX1_bulge 122 = .ok (.return_, 1) := by decide +kernel
theorem dX1_shorten_0 : decode cX1_shorten 0 = .ok (.iload_n 1, 1) := by decide +kernel
theorem dX1_shorten_1 : decode cX1_shorten 1 = .ok (.ifCond .lt 26, 3) := by decide +kernel
theorem dX1_shorten_4 : decode cX1_shorten 4 = .ok (.iload_n 2, 1) := by decide +kernel
theorem dX1_shorten_5 : decode cX1_shorten 5 = .ok (.iload_n 1, 1) := by decide +kernel
theorem dX1_shorten_6 : decode cX1_shorten 6 = .ok (.if_icmp .le 21, 3) := by decide +kernel
theorem dX1_shorten_9 : decode cX1_shorten 9 = .ok (.iload_n 2, 1) := by decide +kernel
theorem dX1_shorten_10 : decode cX1_shorten 10 = .ok (.aload_n 0, 1) := by decide +kernel
theorem dX1_shorten_11 : decode cX1_shorten 11 = .ok (.getfield 21, 3) := by decide +kernel
theorem dX1_shorten_14 : decode cX1_shorten 14 = .ok (.if_icmp .ge 13, 3) := by decide +kernel
theorem dX1_shorten_17 : decode cX1_shorten 17 = .ok (.aload_n 0, 1) := by decide +kernel
theorem dX1_shorten_18 : decode cX1_shorten 18 = .ok (.getfield 21, 3) := by decide +kernel
theorem dX1_shorten_21 : decode cX1_shorten 21 = .ok (.sipush 150, 3) := by decide +kernel
theorem dX1_shorten_24 : decode cX1_shorten 24 = .ok (.if_icmp .le 4, 3) := by decide +kernel
theorem dX1_shorten_27 : decode cX1_shorten 27 = .ok (.return_, 1) := by decide +kernel
theorem dX1_shorten_28 : decode cX1_shorten 28 = .ok (.aload_n 0, 1) := by decide +kernel
theorem dX1_shorten_29 : decode cX1_shorten 29 = .ok (.iload_n 1, 1) := by decide +kernel
theorem dX1_shorten_30 : decode cX1_shorten 30 = .ok (.iload_n 2, 1) := by decide +kernel
theorem dX1_shorten_31 : decode cX1_shorten 31 = .ok (.invokevirtual 60, 3) := by decide +kernel
theorem dX1_shorten_34 : decode cX1_shorten 34 = .ok (.iload_n 2, 1) := by decide +kernel
theorem dX1_shorten_35 : decode cX1_shorten 35 = .ok (.iload_n 1, 1) := by decide +kernel
theorem dX1_shorten_36 : decode cX1_shorten 36 = .ok (.isub, 1) := by decide +kernel
theorem dX1_shorten_37 : decode cX1_shorten 37 = .ok (.iconst 1, 1) := by decide +kernel
theorem dX1_shorten_38 : decode cX1_shorten 38 = .ok (.isub, 1) := by decide +kernel
theorem dX1_shorten_39 : decode cX1_shorten 39 = .ok (.istore_n 3, 1) := by decide +kernel
theorem dX1_shorten_40 : decode cX1_shorten 40 = .ok (.iload_n 2, 1) := by decide +kernel
theorem dX1_shorten_41 : decode cX1_shorten 41 = .ok (.istore 4, 2) := by decide +kernel
theorem dX1_shorten_43 : decode cX1_shorten 43 = .ok (.iload 4, 2) := by decide +kernel
theorem dX1_shorten_45 : decode cX1_shorten 45 = .ok (.aload_n 0, 1) := by decide +kernel
theorem dX1_shorten_46 : decode cX1_shorten 46 = .ok (.getfield 21, 3) := by decide +kernel
theorem dX1_shorten_49 : decode cX1_shorten 49 = .ok (.if_icmp .ge 25, 3) := by decide +kernel
theorem dX1_shorten_52 : decode cX1_shorten 52 = .ok (.aload_n 0, 1) := by decide +kernel
theorem dX1_shorten_53 : decode cX1_shorten 53 = .ok (.getfield 9, 3) := by decide +kernel
theorem dX1_shorten_56 : decode cX1_shorten 56 = .ok (.iload 4, 2) := by decide +kernel
theorem dX1_shorten_58 : decode cX1_shorten 58 = .ok (.iload_n 3, 1) := by decide +kernel
theorem dX1_shorten_59 : decode cX1_shorten 59 = .ok (.isub, 1) := by decide +kernel
theorem dX1_shorten_60 : decode cX1_shorten 60 = .ok (.aload_n 0, 1) := by decide +kernel
theorem dX1_shorten_61 : decode cX1_shorten 61 = .ok (.getfield 9, 3) := by decide +kernel
theorem dX1_shorten_64 : decode cX1_shorten 64 = .ok (.iload 4, 2) := by decide +kernel
theorem dX1_shorten_66 : decode cX1_shorten 66 = .ok (.iaload, 1) := by decide +kernel
theorem dX1_shorten_67 : decode cX1_shorten 67 = .ok (.iastore, 1) := by decide +kernel
theorem dX1_shorten_68 : decode cX1_shorten 68 = .ok (.iinc 4 1, 3) := by decide +kernel
theorem dX1_shorten_71 : decode cX1_shorten 71 = .ok (.goto (-28), 3) := by decide +kernel
theorem dX1_shorten_74 : decode cX1_shorten 74 = .ok (.aload_n 0, 1) := by decide +kernel
theorem dX1_shorten_75 : decode cX1_shorten 75 = .ok (.dup, 1) := by decide +kernel
theorem dX1_shorten_76 : decode cX1_shorten 76 = .ok (.getfield 21, 3) := by decide +kernel
theorem dX1_shorten_79 : decode cX1_shorten 79 = .ok (.iload_n 3, 1) := by decide +kernel
theorem dX1_shorten_80 : decode cX1_shorten 80 = .ok (.isub, 1) := by decide +kernel
theorem dX1_shorten_81 : decode cX1_shorten 81 = .ok (.putfield 21, 3) := by decide +kernel
theorem dX1_shorten_84 : decode cX1_shorten 84 = .ok (.aload_n 0, 1) := by decide +kernel
theorem dX1_shorten_85 : decode cX1_shorten 85 = .ok (.iload_n 1, 1) := by decide +kernel
theorem dX1_shorten_86 : decode cX1_shorten 86 = .ok (.invokevirtual 64, 3) := by decide +kernel
theorem dX1_shorten_89 : decode cX1_shorten 89 = .ok (.return_, 1) := by decide +kernel
theorem dX1_leaveBetween_0 : decode cX1_leaveBetween 0 = .ok (.iload_n 1, 1) := by decide +kernel
theorem dX1_leaveBetween_1 : decode cX1_leaveBetween 1 = .ok (.iconst 1, 1) := by decide +kernel
theorem dX1_leaveBetween_2 : decode cX1_leaveBetween 2 = .ok (.iadd, 1) := by decide +kernel
theorem dX1_leaveBetween_3 : decode cX1_leaveBetween 3 = .ok (.istore_n 3, 1) := by decide +kernel
theorem dX1_leaveBetween_4 : decode cX1_leaveBetween 4 = .ok (.iload_n 3, 1) := by decide +kernel
theorem dX1_leaveBetween_5 : decode cX1_leaveBetween 5 = .ok (.iload_n 2, 1) := by decide +kernel
theorem dX1_leaveBetween_6 : decode cX1_leaveBetween 6 = .ok (.if_icmp .ge 32, 3) := by decide +kernel
theorem dX1_leaveBetween_9 : decode cX1_leaveBetween 9 = .ok (.aload_n 0, 1) := by decide +kernel
theorem dX1_leaveBetween_10 : decode cX1_leaveBetween 10 = .ok (.iload_n 3, 1) := by decide +kernel
theorem dX1_leaveBetween_11 : decode cX1_leaveBetween 11 = .ok (.invokevirtual 41, 3) := by decide +kernel
theorem dX1_leaveBetween_14 : decode cX1_leaveBetween 14 = .ok (.istore 4, 2) := by decide +kernel
theorem dX1_leaveBetween_16 : decode cX1_leaveBetween 16 = .ok (.iload 4, 2) := by decide +kernel
theorem dX1_leaveBetween_18 : decode cX1_leaveBetween 18 = .ok (.invokestatic 37, 3) := by decide +kernel
theorem dX1_leaveBetween_21 : decode cX1_leaveBetween 21 = .ok (.ifCond .eq 11, 3) := by decide +kernel
theorem dX1_leaveBetween_24 : decode cX1_leaveBetween 24 = .ok (.aload_n 0, 1) := by decide +kernel
theorem dX1_leaveBetween_25 : decode cX1_leaveBetween 25 = .ok (.getfield 15, 3) := by decide +kernel
theorem dX1_leaveBetween_28 : decode cX1_leaveBetween 28 = .ok (.iload 4, 2) := by decide +kernel
theorem dX1_leaveBetween_30 : decode cX1_leaveBetween 30 = .ok (.iconst (-1), 1) := by decide +kernel
theorem dX1_leaveBetween_31 : decode cX1_leaveBetween 31 = .ok (.iastore, 1) := by decide +kernel
theorem dX1_leaveBetween_32 : decode cX1_leaveBetween 32 = .ok (.iinc 3 1, 3) := by decide +kernel
theorem dX1_leaveBetween_35 : decode cX1_leaveBetween 35 = .ok (.goto (-31), 3) := by decide +kernel
theorem dX1_leaveBetween_38 : decode cX1_leaveBetween 38 = .ok (.return_, 1) := by decide +kernel
theorem dX1_numberAgain_0 : decode cX1_numberAgain 0 = .ok (.iload_n 1, 1) := by decide +kernel
theorem dX1_numberAgain_1 : decode cX1_numberAgain 1 = .ok (.istore_n 2, 1) := by decide +kernel
theorem dX1_numberAgain_2 : decode cX1_numberAgain 2 = .ok (.iload_n 2, 1) := by decide +kernel
theorem dX1_numberAgain_3 : decode cX1_numberAgain 3 = .ok (.aload_n 0, 1) := by decide +kernel
theorem dX1_numberAgain_4 : decode cX1_numberAgain 4 = .ok (.getfield 21, 3) := by decide +kernel
theorem dX1_numberAgain_7 : decode cX1_numberAgain 7 = .ok (.if_icmp .ge 29, 3) := by decide +kernel
theorem dX1_numberAgain_10 : decode cX1_numberAgain 10 = .ok (.aload_n 0, 1) := by decide +kernel
theorem dX1_numberAgain_11 : decode cX1_numberAgain 11 = .ok (.iload_n 2, 1) := by decide +kernel
theorem dX1_numberAgain_12 : decode cX1_numberAgain 12 = .ok (.invokevirtual 41, 3) := by decide +kernel
theorem dX1_numberAgain_15 : decode cX1_numberAgain 15 = .ok (.istore_n 3, 1) := by decide +kernel
theorem dX1_numberAgain_16 : decode cX1_numberAgain 16 = .ok (.iload_n 3, 1) := by decide +kernel
theorem dX1_numberAgain_17 : decode cX1_numberAgain 17 = .ok (.invokestatic 37, 3) := by decide +kernel
theorem dX1_numberAgain_20 : decode cX1_numberAgain 20 = .ok (.ifCond .eq 10, 3) := by decide +kernel
theorem dX1_numberAgain_23 : decode cX1_numberAgain 23 = .ok (.aload_n 0, 1) := by decide +kernel
theorem dX1_numberAgain_24 : decode cX1_numberAgain 24 = .ok (.getfield 15, 3) := by decide +kernel
theorem dX1_numberAgain_27 : decode cX1_numberAgain 27 = .ok (.iload_n 3, 1) := by decide +kernel
theorem dX1_numberAgain_28 : decode cX1_numberAgain 28 = .ok (.iload_n 2, 1) := by decide +kernel
theorem dX1_numberAgain_29 : decode cX1_numberAgain 29 = .ok (.iastore, 1) := by decide +kernel
theorem dX1_numberAgain_30 : decode cX1_numberAgain 30 = .ok (.iinc 2 1, 3) := by decide +kernel
theorem dX1_numberAgain_33 : decode cX1_numberAgain 33 = .ok (.goto (-31), 3) := by decide +kernel
theorem dX1_numberAgain_36 : decode cX1_numberAgain 36 = .ok (.return_, 1) := by decide +kernel
theorem dX2_init_0 : decode cX2_init 0 = .ok (.aload_n 0, 1) := by decide +kernel
theorem dX2_init_1 : decode cX2_init 1 = .ok (.invokespecial 3, 3) := by decide +kernel
theorem dX2_init_4 : decode cX2_init 4 = .ok (.aload_n 0, 1) := by decide +kernel
theorem dX2_init_5 : decode cX2_init 5 = .ok (.bipush 6, 2) := by decide +kernel
theorem dX2_init_7 : decode cX2_init 7 = .ok (.anewarray 9, 3) := by decide +kernel
theorem dX2_init_10 : decode cX2_init 10 = .ok (.putfield 11, 3) := by decide +kernel
theorem dX2_init_13 : decode cX2_init 13 = .ok (.iconst 0, 1) := by decide +kernel
theorem dX2_init_14 : decode cX2_init 14 = .ok (.istore_n 1, 1) := by decide +kernel
theorem dX2_init_15 : decode cX2_init 15 = .ok (.iload_n 1, 1) := by decide +kernel
theorem dX2_init_16 : decode cX2_init 16 = .ok (.aload_n 0, 1) := by decide +kernel
theorem dX2_init_17 : decode cX2_init 17 = .ok (.getfield 11, 3) := by decide +kernel
theorem dX2_init_20 : decode cX2_init 20 = .ok (.arraylength, 1) := by decide +kernel
theorem dX2_init_21 : decode cX2_init 21 = .ok (.if_icmp .ge 22, 3) := by decide +kernel
theorem dX2_init_24 : decode cX2_init 24 = .ok (.aload_n 0, 1) := by decide +kernel
theorem dX2_init_25 : decode cX2_init 25 = .ok (.getfield 11, 3) := by decide +kernel
theorem dX2_init_28 : decode cX2_init 28 = .ok (.iload_n 1, 1) := by decide +kernel
theorem dX2_init_29 : decode cX2_init 29 = .ok (.new 9, 3) := by decide +kernel
theorem dX2_init_32 : decode cX2_init 32 = .ok (.dup, 1) := by decide +kernel
theorem dX2_init_33 : decode cX2_init 33 = .ok (.invokespecial 17, 3) := by decide +kernel
theorem dX2_init_36 : decode cX2_init 36 = .ok (.aastore, 1) := by decide +kernel
theorem dX2_init_37 : decode cX2_init 37 = .ok (.iinc 1 1, 3) := by decide +kernel
theorem dX2_init_40 : decode cX2_init 40 = .ok (.goto (-25), 3) := by decide +kernel
theorem dX2_init_43 : decode cX2_init 43 = .ok (.return_, 1) := by decide +kernel
theorem dX2_length_0 : decode cX2_length 0 = .ok (.aload_n 0, 1) := by decide +kernel
theorem dX2_length_1 : decode cX2_length 1 = .ok (.getfield 18, 3) := by decide +kernel
theorem dX2_length_4 : decode cX2_length 4 = .ok (.ireturn, 1) := by decide +kernel
theorem dX2_remember_0 : decode cX2_remember 0 = .ok (.aload_n 0, 1) := by decide +kernel
theorem dX2_remember_1 : decode cX2_remember 1 = .ok (.getfield 22, 3) := by decide +kernel
theorem dX2_remember_4 : decode cX2_remember 4 = .ok (.aload_n 0, 1) := by decide +kernel
theorem dX2_remember_5 : decode cX2_remember 5 = .ok (.getfield 18, 3) := by decide +kernel
theorem dX2_remember_8 : decode cX2_remember 8 = .ok (.iadd, 1) := by decide +kernel
theorem dX2_remember_9 : decode cX2_remember 9 = .ok (.bipush 6, 2) := by decide +kernel
theorem dX2_remember_11 : decode cX2_remember 11 = .ok (.irem, 1) := by decide +kernel
theorem dX2_remember_12 : decode cX2_remember 12 = .ok (.istore_n 2, 1) := by decide +kernel
theorem dX2_remember_13 : decode cX2_remember 13 = .ok (.aload_n 0, 1) := by decide +kernel
theorem dX2_remember_14 : decode cX2_remember 14 = .ok (.getfield 18, 3) := by decide +kernel
theorem dX2_remember_17 : decode cX2_remember 17 = .ok (.bipush 6, 2) := by decide +kernel
theorem dX2_remember_19 : decode cX2_remember 19 = .ok (.if_icmp .ne 19, 3) := by decide +kernel
theorem dX2_remember_22 : decode cX2_remember 22 = .ok (.aload_n 0, 1) := by decide +kernel
theorem dX2_remember_23 : decode cX2_remember 23 = .ok (.aload_n 0, 1) := by decide +kernel
theorem dX2_remember_24 : decode cX2_remember 24 = .ok (.getfield 22, 3) := by decide +kernel
theorem dX2_remember_27 : decode cX2_remember 27 = .ok (.iconst 1, 1) := by decide +kernel
theorem dX2_remember_28 : decode cX2_remember 28 = .ok (.iadd, 1) := by decide +kernel
theorem dX2_remember_29 : decode cX2_remember 29 = .ok (.bipush 6, 2) := by decide +kernel
theorem dX2_remember_31 : decode cX2_remember 31 = .ok (.irem, 1) := by decide +kernel
theorem dX2_remember_32 : decode cX2_remember 32 = .ok (.putfield 22, 3) := by decide +kernel
theorem dX2_remember_35 : decode cX2_remember 35 = .ok (.goto 13, 3) := by decide +kernel
theorem dX2_remember_38 : decode cX2_remember 38 = .ok (.aload_n 0, 1) := by decide +kernel
theorem dX2_remember_39 : decode cX2_remember 39 = .ok (.dup, 1) := by decide +kernel
theorem dX2_remember_40 : decode cX2_remember 40 = .ok (.getfield 18, 3) := by decide +kernel
theorem dX2_remember_43 : decode cX2_remember 43 = .ok (.iconst 1, 1) := by decide +kernel
theorem dX2_remember_44 : decode cX2_remember 44 = .ok (.iadd, 1) := by decide +kernel
theorem dX2_remember_45 : decode cX2_remember 45 = .ok (.putfield 18, 3) := by decide +kernel
theorem dX2_remember_48 : decode cX2_remember 48 = .ok (.iload_n 2, 1) := by decide +kernel
theorem dX2_remember_49 : decode cX2_remember 49 = .ok (.ifCond .lt 31, 3) := by decide +kernel
theorem dX2_remember_52 : decode cX2_remember 52 = .ok (.iload_n 2, 1) := by decide +kernel
theorem dX2_remember_53 : decode cX2_remember 53 = .ok (.aload_n 0, 1) := by decide +kernel
theorem dX2_remember_54 : decode cX2_remember 54 = .ok (.getfield 11, 3) := by decide +kernel
theorem dX2_remember_57 : decode cX2_remember 57 = .ok (.arraylength, 1) := by decide +kernel
theorem dX2_remember_58 : decode cX2_remember 58 = .ok (.if_icmp .ge 22, 3) := by decide +kernel
theorem dX2_remember_61 : decode cX2_remember 61 = .ok (.aload_n 0, 1) := by decide +kernel
theorem dX2_remember_62 : decode cX2_remember 62 = .ok (.getfield 11, 3) := by decide +kernel
theorem dX2_remember_65 : decode cX2_remember 65 = .ok (.iload_n 2, 1) := by decide +kernel
theorem dX2_remember_66 : decode cX2_remember 66 = .ok (.aaload, 1) := by decide +kernel
theorem dX2_remember_67 : decode cX2_remember 67 = .ok (.ifnull 13, 3) := by decide +kernel
theorem dX2_remember_70 : decode cX2_remember 70 = .ok (.aload_n 0, 1) := by decide +kernel
theorem dX2_remember_71 : decode cX2_remember 71 = .ok (.getfield 11, 3) := by decide +kernel
theorem dX2_remember_74 : decode cX2_remember 74 = .ok (.iload_n 2, 1) := by decide +kernel
theorem dX2_remember_75 : decode cX2_remember 75 = .ok (.aaload, 1) := by decide +kernel
theorem dX2_remember_76 : decode cX2_remember 76 = .ok (.aload_n 1, 1) := by decide +kernel
theorem dX2_remember_77 : decode cX2_remember 77 = .ok (.invokevirtual 25, 3) := by decide +kernel
theorem dX2_remember_80 : decode cX2_remember 80 = .ok (.return_, 1) := by decide +kernel
theorem dX2_takeBack_0 : decode cX2_takeBack 0 = .ok (.aload_n 0, 1) := by decide +kernel
theorem dX2_takeBack_1 : decode cX2_takeBack 1 = .ok (.getfield 18, 3) := by decide +kernel
theorem dX2_takeBack_4 : decode cX2_takeBack 4 = .ok (.ifCond .ne 5, 3) := by decide +kernel
theorem dX2_takeBack_7 : decode cX2_takeBack 7 = .ok (.iconst 0, 1) := by decide +kernel
theorem dX2_takeBack_8 : decode cX2_takeBack 8 = .ok (.ireturn, 1) := by decide +kernel
theorem dX2_takeBack_9 : decode cX2_takeBack 9 = .ok (.aload_n 0, 1) := by decide +kernel
theorem dX2_takeBack_10 : decode cX2_takeBack 10 = .ok (.dup, 1) := by decide +kernel
theorem dX2_takeBack_11 : decode cX2_takeBack 11 = .ok (.getfield 18, 3) := by decide +kernel
theorem dX2_takeBack_14 : decode cX2_takeBack 14 = .ok (.iconst 1, 1) := by decide +kernel
theorem dX2_takeBack_15 : decode cX2_takeBack 15 = .ok (.isub, 1) := by decide +kernel
theorem dX2_takeBack_16 : decode cX2_takeBack 16 = .ok (.putfield 18, 3) := by decide +kernel
theorem dX2_takeBack_19 : decode cX2_takeBack 19 = .ok (.aload_n 0, 1) := by decide +kernel
theorem dX2_takeBack_20 : decode cX2_takeBack 20 = .ok (.getfield 22, 3) := by decide +kernel
theorem dX2_takeBack_23 : decode cX2_takeBack 23 = .ok (.aload_n 0, 1) := by decide +kernel
theorem dX2_takeBack_24 : decode cX2_takeBack 24 = .ok (.getfield 18, 3) := by decide +kernel
theorem dX2_takeBack_27 : decode cX2_takeBack 27 = .ok (.iadd, 1) := by decide +kernel
theorem dX2_takeBack_28 : decode cX2_takeBack 28 = .ok (.bipush 6, 2) := by decide +kernel
theorem dX2_takeBack_30 : decode cX2_takeBack 30 = .ok (.irem, 1) := by decide +kernel
theorem dX2_takeBack_31 : decode cX2_takeBack 31 = .ok (.istore_n 2, 1) := by decide +kernel
theorem dX2_takeBack_32 : decode cX2_takeBack 32 = .ok (.iload_n 2, 1) := by decide +kernel
theorem dX2_takeBack_33 : decode cX2_takeBack 33 = .ok (.ifCond .lt 31, 3) := by decide +kernel
theorem dX2_takeBack_36 : decode cX2_takeBack 36 = .ok (.iload_n 2, 1) := by decide +kernel
theorem dX2_takeBack_37 : decode cX2_takeBack 37 = .ok (.aload_n 0, 1) := by decide +kernel
theorem dX2_takeBack_38 : decode cX2_takeBack 38 = .ok (.getfield 11, 3) := by decide +kernel
theorem dX2_takeBack_41 : decode cX2_takeBack 41 = .ok (.arraylength, 1) := by decide +kernel
theorem dX2_takeBack_42 : decode cX2_takeBack 42 = .ok (.if_icmp .ge 22, 3) := by decide +kernel
theorem dX2_takeBack_45 : decode cX2_takeBack 45 = .ok (.aload_n 0, 1) := by decide +kernel
theorem dX2_takeBack_46 : decode cX2_takeBack 46 = .ok (.getfield 11, 3) := by decide +kernel
theorem dX2_takeBack_49 : decode cX2_takeBack 49 = .ok (.iload_n 2, 1) := by decide +kernel
theorem dX2_takeBack_50 : decode cX2_takeBack 50 = .ok (.aaload, 1) := by decide +kernel
theorem dX2_takeBack_51 : decode cX2_takeBack 51 = .ok (.ifnull 13, 3) := by decide +kernel
theorem dX2_takeBack_54 : decode cX2_takeBack 54 = .ok (.aload_n 1, 1) := by decide +kernel
theorem dX2_takeBack_55 : decode cX2_takeBack 55 = .ok (.aload_n 0, 1) := by decide +kernel
theorem dX2_takeBack_56 : decode cX2_takeBack 56 = .ok (.getfield 11, 3) := by decide +kernel
theorem dX2_takeBack_59 : decode cX2_takeBack 59 = .ok (.iload_n 2, 1) := by decide +kernel
theorem dX2_takeBack_60 : decode cX2_takeBack 60 = .ok (.aaload, 1) := by decide +kernel
theorem dX2_takeBack_61 : decode cX2_takeBack 61 = .ok (.invokevirtual 25, 3) := by decide +kernel
theorem dX2_takeBack_64 : decode cX2_takeBack 64 = .ok (.iconst 1, 1) := by decide +kernel
theorem dX2_takeBack_65 : decode cX2_takeBack 65 = .ok (.ireturn, 1) := by decide +kernel
theorem dX3_init_0 : decode cX3_init 0 = .ok (.aload_n 0, 1) := by decide +kernel
theorem dX3_init_1 : decode cX3_init 1 = .ok (.invokespecial 3, 3) := by decide +kernel
theorem dX3_init_4 : decode cX3_init 4 = .ok (.return_, 1) := by decide +kernel
theorem dX3_seekNumbered_0 : decode cX3_seekNumbered 0 = .ok (.iload_n 2, 1) := by decide +kernel
theorem dX3_seekNumbered_1 : decode cX3_seekNumbered 1 = .ok (.ifCond .ge 5, 3) := by decide +kernel
theorem dX3_seekNumbered_4 : decode cX3_seekNumbered 4 = .ok (.iconst 0, 1) := by decide +kernel
theorem dX3_seekNumbered_5 : decode cX3_seekNumbered 5 = .ok (.ireturn, 1) := by decide +kernel
theorem dX3_seekNumbered_6 : decode cX3_seekNumbered 6 = .ok (.iconst 0, 1) := by decide +kernel
theorem dX3_seekNumbered_7 : decode cX3_seekNumbered 7 = .ok (.istore_n 3, 1) := by decide +kernel
theorem dX3_seekNumbered_8 : decode cX3_seekNumbered 8 = .ok (.iconst 0, 1) := by decide +kernel
theorem dX3_seekNumbered_9 : decode cX3_seekNumbered 9 = .ok (.istore 4, 2) := by decide +kernel
theorem dX3_seekNumbered_11 : decode cX3_seekNumbered 11 = .ok (.iload 4, 2) := by decide +kernel
theorem dX3_seekNumbered_13 : decode cX3_seekNumbered 13 = .ok (.aload_n 1, 1) := by decide +kernel
theorem dX3_seekNumbered_14 : decode cX3_seekNumbered 14 = .ok (.invokevirtual 9, 3) := by decide +kernel
theorem dX3_seekNumbered_17 : decode cX3_seekNumbered 17 = .ok (.if_icmp .ge 73, 3) := by decide +kernel
theorem dX3_seekNumbered_20 : decode cX3_seekNumbered 20 = .ok (.iload 4, 2) := by decide +kernel
theorem dX3_seekNumbered_22 : decode cX3_seekNumbered 22 = .ok (.iconst 3, 1) := by decide +kernel
theorem dX3_seekNumbered_23 : decode cX3_seekNumbered 23 = .ok (.iadd, 1) := by decide +kernel
theorem dX3_seekNumbered_24 : decode cX3_seekNumbered 24 = .ok (.iconst 1, 1) := by decide +kernel
theorem dX3_seekNumbered_25 : decode cX3_seekNumbered 25 = .ok (.isub, 1) := by decide +kernel
theorem dX3_seekNumbered_26 : decode cX3_seekNumbered 26 = .ok (.istore 5, 2) := by decide +kernel
theorem dX3_seekNumbered_28 : decode cX3_seekNumbered 28 = .ok (.iconst 0, 1) := by decide +kernel
theorem dX3_seekNumbered_29 : decode cX3_seekNumbered 29 = .ok (.istore 6, 2) := by decide +kernel
theorem dX3_seekNumbered_31 : decode cX3_seekNumbered 31 = .ok (.iload 6, 2) := by decide +kernel
theorem dX3_seekNumbered_33 : decode cX3_seekNumbered 33 = .ok (.iconst 4, 1) := by decide +kernel
theorem dX3_seekNumbered_34 : decode cX3_seekNumbered 34 = .ok (.if_icmp .ge 50, 3) := by decide +kernel
theorem dX3_seekNumbered_37 : decode cX3_seekNumbered 37 = .ok (.aload_n 1, 1) := by decide +kernel
theorem dX3_seekNumbered_38 : decode cX3_seekNumbered 38 = .ok (.iload 4, 2) := by decide +kernel
theorem dX3_seekNumbered_40 : decode cX3_seekNumbered 40 = .ok (.iload 5, 2) := by decide +kernel
theorem dX3_seekNumbered_42 : decode cX3_seekNumbered 42 = .ok (.invokevirtual 15, 3) := by decide +kernel
theorem dX3_seekNumbered_45 : decode cX3_seekNumbered 45 = .ok (.istore 5, 2) := by decide +kernel
theorem dX3_seekNumbered_47 : decode cX3_seekNumbered 47 = .ok (.iload 5, 2) := by decide +kernel
theorem dX3_seekNumbered_49 : decode cX3_seekNumbered 49 = .ok (.iconst (-1), 1) := by decide +kernel
theorem dX3_seekNumbered_50 : decode cX3_seekNumbered 50 = .ok (.if_icmp .ne 6, 3) := by decide +kernel
theorem dX3_seekNumbered_53 : decode cX3_seekNumbered 53 = .ok (.goto 31, 3) := by decide +kernel
theorem dX3_seekNumbered_56 : decode cX3_seekNumbered 56 = .ok (.iload_n 3, 1) := by decide +kernel
theorem dX3_seekNumbered_57 : decode cX3_seekNumbered 57 = .ok (.iload_n 2, 1) := by decide +kernel
theorem dX3_seekNumbered_58 : decode cX3_seekNumbered 58 = .ok (.if_icmp .ne 17, 3) := by decide +kernel
theorem dX3_seekNumbered_61 : decode cX3_seekNumbered 61 = .ok (.aload_n 0, 1) := by decide +kernel
theorem dX3_seekNumbered_62 : decode cX3_seekNumbered 62 = .ok (.iload 4, 2) := by decide +kernel
theorem dX3_seekNumbered_64 : decode cX3_seekNumbered 64 = .ok (.putfield 19, 3) := by decide +kernel
theorem dX3_seekNumbered_67 : decode cX3_seekNumbered 67 = .ok (.aload_n 0, 1) := by decide +kernel
theorem dX3_seekNumbered_68 : decode cX3_seekNumbered 68 = .ok (.iload 5, 2) := by decide +kernel
theorem dX3_seekNumbered_70 : decode cX3_seekNumbered 70 = .ok (.putfield 25, 3) := by decide +kernel
theorem dX3_seekNumbered_73 : decode cX3_seekNumbered 73 = .ok (.iconst 1, 1) := by decide +kernel
theorem dX3_seekNumbered_74 : decode cX3_seekNumbered 74 = .ok (.ireturn, 1) := by decide +kernel
theorem dX3_seekNumbered_75 : decode cX3_seekNumbered 75 = .ok (.iinc 3 1, 3) := by decide +kernel
theorem dX3_seekNumbered_78 : decode cX3_seekNumbered 78 = .ok (.iinc 6 1, 3) := by decide +kernel
theorem dX3_seekNumbered_81 : decode cX3_seekNumbered 81 = .ok (.goto (-50), 3) := by decide +kernel
theorem dX3_seekNumbered_84 : decode cX3_seekNumbered 84 = .ok (.iinc 4 1, 3) := by decide +kernel
theorem dX3_seekNumbered_87 : decode cX3_seekNumbered 87 = .ok (.goto (-76), 3) := by decide +kernel
theorem dX3_seekNumbered_90 : decode cX3_seekNumbered 90 = .ok (.iconst 0, 1) := by decide +kernel
theorem dX3_seekNumbered_91 : decode cX3_seekNumbered 91 = .ok (.ireturn, 1) := by decide +kernel
theorem dX3_seekWidest_0 : decode cX3_seekWidest 0 = .ok (.aload_n 0, 1) := by decide +kernel
theorem dX3_seekWidest_1 : decode cX3_seekWidest 1 = .ok (.iconst (-1), 1) := by decide +kernel
theorem dX3_seekWidest_2 : decode cX3_seekWidest 2 = .ok (.putfield 19, 3) := by decide +kernel
theorem dX3_seekWidest_5 : decode cX3_seekWidest 5 = .ok (.aload_n 0, 1) := by decide +kernel
theorem dX3_seekWidest_6 : decode cX3_seekWidest 6 = .ok (.iconst (-1), 1) := by decide +kernel
theorem dX3_seekWidest_7 : decode cX3_seekWidest 7 = .ok (.putfield 25, 3) := by decide +kernel
theorem dX3_seekWidest_10 : decode cX3_seekWidest 10 = .ok (.iconst 2, 1) := by decide +kernel
theorem dX3_seekWidest_11 : decode cX3_seekWidest 11 = .ok (.istore_n 3, 1) := by decide +kernel
theorem dX3_seekWidest_12 : decode cX3_seekWidest 12 = .ok (.aload_n 1, 1) := by decide +kernel
theorem dX3_seekWidest_13 : decode cX3_seekWidest 13 = .ok (.getfield 28, 3) := by decide +kernel
theorem dX3_seekWidest_16 : decode cX3_seekWidest 16 = .ok (.astore 4, 2) := by decide +kernel
theorem dX3_seekWidest_18 : decode cX3_seekWidest 18 = .ok (.iconst 0, 1) := by decide +kernel
theorem dX3_seekWidest_19 : decode cX3_seekWidest 19 = .ok (.istore 5, 2) := by decide +kernel
theorem dX3_seekWidest_21 : decode cX3_seekWidest 21 = .ok (.iload 5, 2) := by decide +kernel
theorem dX3_seekWidest_23 : decode cX3_seekWidest 23 = .ok (.aload 4, 2) := by decide +kernel
theorem dX3_seekWidest_25 : decode cX3_seekWidest 25 = .ok (.invokevirtual 9, 3) := by decide +kernel
theorem dX3_seekWidest_28 : decode cX3_seekWidest 28 = .ok (.if_icmp .ge 74, 3) := by decide +kernel
theorem dX3_seekWidest_31 : decode cX3_seekWidest 31 = .ok (.iconst 0, 1) := by decide +kernel
theorem dX3_seekWidest_32 : decode cX3_seekWidest 32 = .ok (.istore 6, 2) := by decide +kernel
theorem dX3_seekWidest_34 : decode cX3_seekWidest 34 = .ok (.iload 6, 2) := by decide +kernel
theorem dX3_seekWidest_36 : decode cX3_seekWidest 36 = .ok (.iconst 4, 1) := by decide +kernel
theorem dX3_seekWidest_37 : decode cX3_seekWidest 37 = .ok (.if_icmp .ge 59, 3) := by decide +kernel
theorem dX3_seekWidest_40 : decode cX3_seekWidest 40 = .ok (.aload 4, 2) := by decide +kernel
theorem dX3_seekWidest_42 : decode cX3_seekWidest 42 = .ok (.iload 5, 2) := by decide +kernel
theorem dX3_seekWidest_44 : decode cX3_seekWidest 44 = .ok (.iload 6, 2) := by decide +kernel
theorem dX3_seekWidest_46 : decode cX3_seekWidest 46 = .ok (.invokevirtual 34, 3) := by decide +kernel
theorem dX3_seekWidest_49 : decode cX3_seekWidest 49 = .ok (.istore 7, 2) := by decide +kernel
theorem dX3_seekWidest_51 : decode cX3_seekWidest 51 = .ok (.iload 7, 2) := by decide +kernel
theorem dX3_seekWidest_53 : decode cX3_seekWidest 53 = .ok (.iload 5, 2) := by decide +kernel
theorem dX3_seekWidest_55 : decode cX3_seekWidest 55 = .ok (.isub, 1) := by decide +kernel
theorem dX3_seekWidest_56 : decode cX3_seekWidest 56 = .ok (.iload_n 3, 1) := by decide +kernel
theorem dX3_seekWidest_57 : decode cX3_seekWidest 57 = .ok (.if_icmp .le 33, 3) := by decide +kernel
theorem dX3_seekWidest_60 : decode cX3_seekWidest 60 = .ok (.aload_n 1, 1) := by decide +kernel
theorem dX3_seekWidest_61 : decode cX3_seekWidest 61 = .ok (.iload 5, 2) := by decide +kernel
theorem dX3_seekWidest_63 : decode cX3_seekWidest 63 = .ok (.iload 7, 2) := by decide +kernel
theorem dX3_seekWidest_65 : decode cX3_seekWidest 65 = .ok (.invokevirtual 37, 3) := by decide +kernel
theorem dX3_seekWidest_68 : decode cX3_seekWidest 68 = .ok (.iload_n 2, 1) := by decide +kernel
theorem dX3_seekWidest_69 : decode cX3_seekWidest 69 = .ok (.if_icmp .lt 21, 3) := by decide +kernel
theorem dX3_seekWidest_72 : decode cX3_seekWidest 72 = .ok (.aload_n 0, 1) := by decide +kernel
theorem dX3_seekWidest_73 : decode cX3_seekWidest 73 = .ok (.iload 5, 2) := by decide +kernel
theorem dX3_seekWidest_75 : decode cX3_seekWidest 75 = .ok (.putfield 19, 3) := by decide +kernel
theorem dX3_seekWidest_78 : decode cX3_seekWidest 78 = .ok (.aload_n 0, 1) := by decide +kernel
theorem dX3_seekWidest_79 : decode cX3_seekWidest 79 = .ok (.iload 7, 2) := by decide +kernel
theorem dX3_seekWidest_81 : decode cX3_seekWidest 81 = .ok (.putfield 25, 3) := by decide +kernel
theorem dX3_seekWidest_84 : decode cX3_seekWidest 84 = .ok (.iload 7, 2) := by decide +kernel
theorem dX3_seekWidest_86 : decode cX3_seekWidest 86 = .ok (.iload 5, 2) := by decide +kernel
theorem dX3_seekWidest_88 : decode cX3_seekWidest 88 = .ok (.isub, 1) := by decide +kernel
theorem dX3_seekWidest_89 : decode cX3_seekWidest 89 = .ok (.istore_n 3, 1) := by decide +kernel
theorem dX3_seekWidest_90 : decode cX3_seekWidest 90 = .ok (.iinc 6 1, 3) := by decide +kernel
theorem dX3_seekWidest_93 : decode cX3_seekWidest 93 = .ok (.goto (-59), 3) := by decide +kernel
theorem dX3_seekWidest_96 : decode cX3_seekWidest 96 = .ok (.iinc 5 1, 3) := by decide +kernel
theorem dX3_seekWidest_99 : decode cX3_seekWidest 99 = .ok (.goto (-78), 3) := by decide +kernel
theorem dX3_seekWidest_102 : decode cX3_seekWidest 102 = .ok (.aload_n 0, 1) := by decide +kernel
theorem dX3_seekWidest_103 : decode cX3_seekWidest 103 = .ok (.getfield 19, 3) := by decide +kernel
theorem dX3_seekWidest_106 : decode cX3_seekWidest 106 = .ok (.iconst (-1), 1) := by decide +kernel
theorem dX3_seekWidest_107 : decode cX3_seekWidest 107 = .ok (.if_icmp .eq 7, 3) := by decide +kernel
theorem dX3_seekWidest_110 : decode cX3_seekWidest 110 = .ok (.iconst 1, 1) := by decide +kernel
theorem dX3_seekWidest_111 : decode cX3_seekWidest 111 = .ok (.goto 4, 3) := by decide +kernel
theorem dX3_seekWidest_114 : decode cX3_seekWidest 114 = .ok (.iconst 0, 1) := by decide +kernel
theorem dX3_seekWidest_115 : decode cX3_seekWidest 115 = .ok (.ireturn, 1) := by decide +kernel
theorem dX4_init_0 : decode cX4_init 0 = .ok (.aload_n 0, 1) := by decide +kernel
theorem dX4_init_1 : decode cX4_init 1 = .ok (.invokespecial 3, 3) := by decide +kernel
theorem dX4_init_4 : decode cX4_init 4 = .ok (.aload_n 0, 1) := by decide +kernel
theorem dX4_init_5 : decode cX4_init 5 = .ok (.sipush 240, 3) := by decide +kernel
theorem dX4_init_8 : decode cX4_init 8 = .ok (.newarray .int, 2) := by decide +kernel
theorem dX4_init_10 : decode cX4_init 10 = .ok (.putfield 9, 3) := by decide +kernel
theorem dX4_init_13 : decode cX4_init 13 = .ok (.aload_n 0, 1) := by decide +kernel
theorem dX4_init_14 : decode cX4_init 14 = .ok (.bipush 12, 2) := by decide +kernel
theorem dX4_init_16 : decode cX4_init 16 = .ok (.newarray .int, 2) := by decide +kernel
theorem dX4_init_18 : decode cX4_init 18 = .ok (.putfield 15, 3) := by decide +kernel
theorem dX4_init_21 : decode cX4_init 21 = .ok (.aload_n 0, 1) := by decide +kernel
theorem dX4_init_22 : decode cX4_init 22 = .ok (.bipush 12, 2) := by decide +kernel
theorem dX4_init_24 : decode cX4_init 24 = .ok (.newarray .int, 2) := by decide +kernel
theorem dX4_init_26 : decode cX4_init 26 = .ok (.putfield 18, 3) := by decide +kernel
theorem dX4_init_29 : decode cX4_init 29 = .ok (.aload_n 0, 1) := by decide +kernel
theorem dX4_init_30 : decode cX4_init 30 = .ok (.bipush 12, 2) := by decide +kernel
theorem dX4_init_32 : decode cX4_init 32 = .ok (.newarray .int, 2) := by decide +kernel
theorem dX4_init_34 : decode cX4_init 34 = .ok (.putfield 21, 3) := by decide +kernel
theorem dX4_init_37 : decode cX4_init 37 = .ok (.aload_n 0, 1) := by decide +kernel
theorem dX4_init_38 : decode cX4_init 38 = .ok (.invokevirtual 24, 3) := by decide +kernel
theorem dX4_init_41 : decode cX4_init 41 = .ok (.return_, 1) := by decide +kernel
theorem dX4_clear_0 : decode cX4_clear 0 = .ok (.aload_n 0, 1) := by decide +kernel
theorem dX4_clear_1 : decode cX4_clear 1 = .ok (.iconst 0, 1) := by decide +kernel
theorem dX4_clear_2 : decode cX4_clear 2 = .ok (.putfield 27, 3) := by decide +kernel
theorem dX4_clear_5 : decode cX4_clear 5 = .ok (.aload_n 0, 1) := by decide +kernel
theorem dX4_clear_6 : decode cX4_clear 6 = .ok (.getfield 9, 3) := by decide +kernel
theorem dX4_clear_9 : decode cX4_clear 9 = .ok (.iconst (-1), 1) := by decide +kernel
theorem dX4_clear_10 : decode cX4_clear 10 = .ok (.invokestatic 31, 3) := by decide +kernel
theorem dX4_clear_13 : decode cX4_clear 13 = .ok (.return_, 1) := by decide +kernel
theorem dX4_copyFrom_0 : decode cX4_copyFrom 0 = .ok (.aload_n 1, 1) := by decide +kernel
theorem dX4_copyFrom_1 : decode cX4_copyFrom 1 = .ok (.getfield 9, 3) := by decide +kernel
theorem dX4_copyFrom_4 : decode cX4_copyFrom 4 = .ok (.iconst 0, 1) := by decide +kernel
theorem dX4_copyFrom_5 : decode cX4_copyFrom 5 = .ok (.aload_n 0, 1) := by decide +kernel
theorem dX4_copyFrom_6 : decode cX4_copyFrom 6 = .ok (.getfield 9, 3) := by decide +kernel
theorem dX4_copyFrom_9 : decode cX4_copyFrom 9 = .ok (.iconst 0, 1) := by decide +kernel
theorem dX4_copyFrom_10 : decode cX4_copyFrom 10 = .ok (.sipush 240, 3) := by decide +kernel
theorem dX4_copyFrom_13 : decode cX4_copyFrom 13 = .ok (.invokestatic 37, 3) := by decide +kernel
theorem dX4_copyFrom_16 : decode cX4_copyFrom 16 = .ok (.aload_n 1, 1) := by decide +kernel
theorem dX4_copyFrom_17 : decode cX4_copyFrom 17 = .ok (.getfield 15, 3) := by decide +kernel
theorem dX4_copyFrom_20 : decode cX4_copyFrom 20 = .ok (.iconst 0, 1) := by decide +kernel
theorem dX4_copyFrom_21 : decode cX4_copyFrom 21 = .ok (.aload_n 0, 1) := by decide +kernel
theorem dX4_copyFrom_22 : decode cX4_copyFrom 22 = .ok (.getfield 15, 3) := by decide +kernel
theorem dX4_copyFrom_25 : decode cX4_copyFrom 25 = .ok (.iconst 0, 1) := by decide +kernel
theorem dX4_copyFrom_26 : decode cX4_copyFrom 26 = .ok (.bipush 12, 2) := by decide +kernel
theorem dX4_copyFrom_28 : decode cX4_copyFrom 28 = .ok (.invokestatic 37, 3) := by decide +kernel
theorem dX4_copyFrom_31 : decode cX4_copyFrom 31 = .ok (.aload_n 1, 1) := by decide +kernel
theorem dX4_copyFrom_32 : decode cX4_copyFrom 32 = .ok (.getfield 18, 3) := by decide +kernel
theorem dX4_copyFrom_35 : decode cX4_copyFrom 35 = .ok (.iconst 0, 1) := by decide +kernel
theorem dX4_copyFrom_36 : decode cX4_copyFrom 36 = .ok (.aload_n 0, 1) := by decide +kernel
theorem dX4_copyFrom_37 : decode cX4_copyFrom 37 = .ok (.getfield 18, 3) := by decide +kernel
theorem dX4_copyFrom_40 : decode cX4_copyFrom 40 = .ok (.iconst 0, 1) := by decide +kernel
theorem dX4_copyFrom_41 : decode cX4_copyFrom 41 = .ok (.bipush 12, 2) := by decide +kernel
theorem dX4_copyFrom_43 : decode cX4_copyFrom 43 = .ok (.invokestatic 37, 3) := by decide +kernel
theorem dX4_copyFrom_46 : decode cX4_copyFrom 46 = .ok (.aload_n 1, 1) := by decide +kernel
theorem dX4_copyFrom_47 : decode cX4_copyFrom 47 = .ok (.getfield 21, 3) := by decide +kernel
theorem dX4_copyFrom_50 : decode cX4_copyFrom 50 = .ok (.iconst 0, 1) := by decide +kernel
theorem dX4_copyFrom_51 : decode cX4_copyFrom 51 = .ok (.aload_n 0, 1) := by decide +kernel
theorem dX4_copyFrom_52 : decode cX4_copyFrom 52 = .ok (.getfield 21, 3) := by decide +kernel
theorem dX4_copyFrom_55 : decode cX4_copyFrom 55 = .ok (.iconst 0, 1) := by decide +kernel
theorem dX4_copyFrom_56 : decode cX4_copyFrom 56 = .ok (.bipush 12, 2) := by decide +kernel
theorem dX4_copyFrom_58 : decode cX4_copyFrom 58 = .ok (.invokestatic 37, 3) := by decide +kernel
theorem dX4_copyFrom_61 : decode cX4_copyFrom 61 = .ok (.aload_n 0, 1) := by decide +kernel
theorem dX4_copyFrom_62 : decode cX4_copyFrom 62 = .ok (.aload_n 1, 1) := by decide +kernel
theorem dX4_copyFrom_63 : decode cX4_copyFrom 63 = .ok (.getfield 27, 3) := by decide +kernel
theorem dX4_copyFrom_66 : decode cX4_copyFrom 66 = .ok (.putfield 27, 3) := by decide +kernel
theorem dX4_copyFrom_69 : decode cX4_copyFrom 69 = .ok (.return_, 1) := by decide +kernel
theorem dX4_length_0 : decode cX4_length 0 = .ok (.aload_n 0, 1) := by decide +kernel
theorem dX4_length_1 : decode cX4_length 1 = .ok (.getfield 27, 3) := by decide +kernel
theorem dX4_length_4 : decode cX4_length 4 = .ok (.ireturn, 1) := by decide +kernel
theorem dX4_has_0 : decode cX4_has 0 = .ok (.iload_n 1, 1) := by decide +kernel
theorem dX4_has_1 : decode cX4_has 1 = .ok (.ifCond .lt 21, 3) := by decide +kernel
theorem dX4_has_4 : decode cX4_has 4 = .ok (.iload_n 1, 1) := by decide +kernel
theorem dX4_has_5 : decode cX4_has 5 = .ok (.aload_n 0, 1) := by decide +kernel
theorem dX4_has_6 : decode cX4_has 6 = .ok (.getfield 27, 3) := by decide +kernel
theorem dX4_has_9 : decode cX4_has 9 = .ok (.if_icmp .ge 13, 3) := by decide +kernel
theorem dX4_has_12 : decode cX4_has 12 = .ok (.iload_n 1, 1) := by decide +kernel
theorem dX4_has_13 : decode cX4_has 13 = .ok (.bipush 12, 2) := by decide +kernel
theorem dX4_has_15 : decode cX4_has 15 = .ok (.if_icmp .ge 7, 3) := by decide +kernel
theorem dX4_has_18 : decode cX4_has 18 = .ok (.iconst 1, 1) := by decide +kernel
theorem dX4_has_19 : decode cX4_has 19 = .ok (.goto 4, 3) := by decide +kernel
theorem dX4_has_22 : decode cX4_has 22 = .ok (.iconst 0, 1) := by decide +kernel
theorem dX4_has_23 : decode cX4_has 23 = .ok (.ireturn, 1) := by decide +kernel
theorem dX4_ownerOf_0 : decode cX4_ownerOf 0 = .ok (.iload_n 1, 1) := by decide +kernel
theorem dX4_ownerOf_1 : decode cX4_ownerOf 1 = .ok (.invokestatic 43, 3) := by decide +kernel
theorem dX4_ownerOf_4 : decode cX4_ownerOf 4 = .ok (.ifCond .eq 12, 3) := by decide +kernel
theorem dX4_ownerOf_7 : decode cX4_ownerOf 7 = .ok (.aload_n 0, 1) := by decide +kernel
theorem dX4_ownerOf_8 : decode cX4_ownerOf 8 = .ok (.getfield 9, 3) := by decide +kernel
theorem dX4_ownerOf_11 : decode cX4_ownerOf 11 = .ok (.iload_n 1, 1) := by decide +kernel
theorem dX4_ownerOf_12 : decode cX4_ownerOf 12 = .ok (.iaload, 1) := by decide +kernel
theorem dX4_ownerOf_13 : decode cX4_ownerOf 13 = .ok (.goto 4, 3) := by decide +kernel
theorem dX4_ownerOf_16 : decode cX4_ownerOf 16 = .ok (.iconst (-1), 1) := by decide +kernel
theorem dX4_ownerOf_17 : decode cX4_ownerOf 17 = .ok (.ireturn, 1) := by decide +kernel
theorem dX4_sizeOf_0 : decode cX4_sizeOf 0 = .ok (.aload_n 0, 1) := by decide +kernel
theorem dX4_sizeOf_1 : decode cX4_sizeOf 1 = .ok (.iload_n 1, 1) := by decide +kernel
theorem dX4_sizeOf_2 : decode cX4_sizeOf 2 = .ok (.invokevirtual 47, 3) := by decide +kernel
theorem dX4_sizeOf_5 : decode cX4_sizeOf 5 = .ok (.ifCond .eq 12, 3) := by decide +kernel
theorem dX4_sizeOf_8 : decode cX4_sizeOf 8 = .ok (.aload_n 0, 1) := by decide +kernel
theorem dX4_sizeOf_9 : decode cX4_sizeOf 9 = .ok (.getfield 18, 3) := by decide +kernel
theorem dX4_sizeOf_12 : decode cX4_sizeOf 12 = .ok (.iload_n 1, 1) := by decide +kernel
theorem dX4_sizeOf_13 : decode cX4_sizeOf 13 = .ok (.iaload, 1) := by decide +kernel
theorem dX4_sizeOf_14 : decode cX4_sizeOf 14 = .ok (.goto 4, 3) := by decide +kernel
theorem dX4_sizeOf_17 : decode cX4_sizeOf 17 = .ok (.iconst 0, 1) := by decide +kernel
theorem dX4_sizeOf_18 : decode cX4_sizeOf 18 = .ok (.ireturn, 1) := by decide +kernel
theorem dX4_yearsOf_0 : decode cX4_yearsOf 0 = .ok (.aload_n 0, 1) := by decide +kernel
theorem dX4_yearsOf_1 : decode cX4_yearsOf 1 = .ok (.iload_n 1, 1) := by decide +kernel
theorem dX4_yearsOf_2 : decode cX4_yearsOf 2 = .ok (.invokevirtual 47, 3) := by decide +kernel
theorem dX4_yearsOf_5 : decode cX4_yearsOf 5 = .ok (.ifCond .eq 12, 3) := by decide +kernel
theorem dX4_yearsOf_8 : decode cX4_yearsOf 8 = .ok (.aload_n 0, 1) := by decide +kernel
theorem dX4_yearsOf_9 : decode cX4_yearsOf 9 = .ok (.getfield 21, 3) := by decide +kernel
theorem dX4_yearsOf_12 : decode cX4_yearsOf 12 = .ok (.iload_n 1, 1) := by decide +kernel
theorem dX4_yearsOf_13 : decode cX4_yearsOf 13 = .ok (.iaload, 1) := by decide +kernel
theorem dX4_yearsOf_14 : decode cX4_yearsOf 14 = .ok (.goto 4, 3) := by decide +kernel
theorem dX4_yearsOf_17 : decode cX4_yearsOf 17 = .ok (.iconst 0, 1) := by decide +kernel
theorem dX4_yearsOf_18 : decode cX4_yearsOf 18 = .ok (.ireturn, 1) := by decide +kernel
theorem dX4_firstCellOf_0 : decode cX4_firstCellOf 0 = .ok (.aload_n 0, 1) := by decide +kernel
theorem dX4_firstCellOf_1 : decode cX4_firstCellOf 1 = .ok (.iload_n 1, 1) := by decide +kernel
theorem dX4_firstCellOf_2 : decode cX4_firstCellOf 2 = .ok (.invokevirtual 47, 3) := by decide +kernel
theorem dX4_firstCellOf_5 : decode cX4_firstCellOf 5 = .ok (.ifCond .eq 12, 3) := by decide +kernel
theorem dX4_firstCellOf_8 : decode cX4_firstCellOf 8 = .ok (.aload_n 0, 1) := by decide +kernel
theorem dX4_firstCellOf_9 : decode cX4_firstCellOf 9 = .ok (.getfield 15, 3) := by decide +kernel
theorem dX4_firstCellOf_12 : decode cX4_firstCellOf 12 = .ok (.iload_n 1, 1) := by decide +kernel
theorem dX4_firstCellOf_13 : decode cX4_firstCellOf 13 = .ok (.iaload, 1) := by decide +kernel
theorem dX4_firstCellOf_14 : decode cX4_firstCellOf 14 = .ok (.goto 4, 3) := by decide +kernel
theorem dX4_firstCellOf_17 : decode cX4_firstCellOf 17 = .ok (.iconst 0, 1) := by decide +kernel
theorem dX4_firstCellOf_18 : decode cX4_firstCellOf 18 = .ok (.ireturn, 1) := by decide +kernel
theorem dX4_take_0 : decode cX4_take 0 = .ok (.aload_n 0, 1) := by decide +kernel
theorem dX4_take_1 : decode cX4_take 1 = .ok (.getfield 27, 3) := by decide +kernel
theorem dX4_take_4 : decode cX4_take 4 = .ok (.bipush 12, 2) := by decide +kernel
theorem dX4_take_6 : decode cX4_take 6 = .ok (.if_icmp .lt 8, 3) := by decide +kernel
theorem dX4_take_9 : decode cX4_take 9 = .ok (.aload_n 0, 1) := by decide +kernel
theorem dX4_take_10 : decode cX4_take 10 = .ok (.iconst 0, 1) := by decide +kernel
theorem dX4_take_11 : decode cX4_take 11 = .ok (.invokevirtual 50, 3) := by decide +kernel
theorem dX4_take_14 : decode cX4_take 14 = .ok (.aload_n 0, 1) := by decide +kernel
theorem dX4_take_15 : decode cX4_take 15 = .ok (.getfield 27, 3) := by decide +kernel
theorem dX4_take_18 : decode cX4_take 18 = .ok (.ifCond .lt 12, 3) := by decide +kernel
theorem dX4_take_21 : decode cX4_take 21 = .ok (.aload_n 0, 1) := by decide +kernel
theorem dX4_take_22 : decode cX4_take 22 = .ok (.getfield 27, 3) := by decide +kernel
theorem dX4_take_25 : decode cX4_take 25 = .ok (.bipush 12, 2) := by decide +kernel
theorem dX4_take_27 : decode cX4_take 27 = .ok (.if_icmp .lt 4, 3) := by decide +kernel
theorem dX4_take_30 : decode cX4_take 30 = .ok (.return_, 1) := by decide +kernel
theorem dX4_take_31 : decode cX4_take 31 = .ok (.iload_n 2, 1) := by decide +kernel
theorem dX4_take_32 : decode cX4_take 32 = .ok (.iconst 1, 1) := by decide +kernel
theorem dX4_take_33 : decode cX4_take 33 = .ok (.iadd, 1) := by decide +kernel
theorem dX4_take_34 : decode cX4_take 34 = .ok (.istore 4, 2) := by decide +kernel
theorem dX4_take_36 : decode cX4_take 36 = .ok (.iload 4, 2) := by decide +kernel
theorem dX4_take_38 : decode cX4_take 38 = .ok (.iload_n 3, 1) := by decide +kernel
theorem dX4_take_39 : decode cX4_take 39 = .ok (.if_icmp .ge 36, 3) := by decide +kernel
theorem dX4_take_42 : decode cX4_take 42 = .ok (.aload_n 1, 1) := by decide +kernel
theorem dX4_take_43 : decode cX4_take 43 = .ok (.iload 4, 2) := by decide +kernel
theorem dX4_take_45 : decode cX4_take 45 = .ok (.invokevirtual 54, 3) := by decide +kernel
theorem dX4_take_48 : decode cX4_take 48 = .ok (.istore 5, 2) := by decide +kernel
theorem dX4_take_50 : decode cX4_take 50 = .ok (.iload 5, 2) := by decide +kernel
theorem dX4_take_52 : decode cX4_take 52 = .ok (.invokestatic 43, 3) := by decide +kernel
theorem dX4_take_55 : decode cX4_take 55 = .ok (.ifCond .eq 14, 3) := by decide +kernel
theorem dX4_take_58 : decode cX4_take 58 = .ok (.aload_n 0, 1) := by decide +kernel
theorem dX4_take_59 : decode cX4_take 59 = .ok (.getfield 9, 3) := by decide +kernel
theorem dX4_take_62 : decode cX4_take 62 = .ok (.iload 5, 2) := by decide +kernel
theorem dX4_take_64 : decode cX4_take 64 = .ok (.aload_n 0, 1) := by decide +kernel
theorem dX4_take_65 : decode cX4_take 65 = .ok (.getfield 27, 3) := by decide +kernel
theorem dX4_take_68 : decode cX4_take 68 = .ok (.iastore, 1) := by decide +kernel
theorem dX4_take_69 : decode cX4_take 69 = .ok (.iinc 4 1, 3) := by decide +kernel
theorem dX4_take_72 : decode cX4_take 72 = .ok (.goto (-36), 3) := by decide +kernel
theorem dX4_take_75 : decode cX4_take 75 = .ok (.aload_n 0, 1) := by decide +kernel
theorem dX4_take_76 : decode cX4_take 76 = .ok (.getfield 15, 3) := by decide +kernel
theorem dX4_take_79 : decode cX4_take 79 = .ok (.aload_n 0, 1) := by decide +kernel
theorem dX4_take_80 : decode cX4_take 80 = .ok (.getfield 27, 3) := by decide +kernel
theorem dX4_take_83 : decode cX4_take 83 = .ok (.aload_n 1, 1) := by decide +kernel
theorem dX4_take_84 : decode cX4_take 84 = .ok (.iload_n 2, 1) := by decide +kernel
theorem dX4_take_85 : decode cX4_take 85 = .ok (.iconst 1, 1) := by decide +kernel
theorem dX4_take_86 : decode cX4_take 86 = .ok (.iadd, 1) := by decide +kernel
theorem dX4_take_87 : decode cX4_take 87 = .ok (.invokevirtual 54, 3) := by decide +kernel
theorem dX4_take_90 : decode cX4_take 90 = .ok (.iastore, 1) := by decide +kernel
theorem dX4_take_91 : decode cX4_take 91 = .ok (.aload_n 0, 1) := by decide +kernel
theorem dX4_take_92 : decode cX4_take 92 = .ok (.getfield 18, 3) := by decide +kernel
theorem dX4_take_95 : decode cX4_take 95 = .ok (.aload_n 0, 1) := by decide +kernel
theorem dX4_take_96 : decode cX4_take 96 = .ok (.getfield 27, 3) := by decide +kernel
theorem dX4_take_99 : decode cX4_take 99 = .ok (.iload_n 3, 1) := by decide +kernel
theorem dX4_take_100 : decode cX4_take 100 = .ok (.iload_n 2, 1) := by decide +kernel
theorem dX4_take_101 : decode cX4_take 101 = .ok (.isub, 1) := by decide +kernel
theorem dX4_take_102 : decode cX4_take 102 = .ok (.iconst 1, 1) := by decide +kernel
theorem dX4_take_103 : decode cX4_take 103 = .ok (.isub, 1) := by decide +kernel
theorem dX4_take_104 : decode cX4_take 104 = .ok (.iastore, 1) := by decide +kernel
theorem dX4_take_105 : decode cX4_take 105 = .ok (.aload_n 0, 1) := by decide +kernel
theorem dX4_take_106 : decode cX4_take 106 = .ok (.getfield 21, 3) := by decide +kernel
theorem dX4_take_109 : decode cX4_take 109 = .ok (.aload_n 0, 1) := by decide +kernel
theorem dX4_take_110 : decode cX4_take 110 = .ok (.getfield 27, 3) := by decide +kernel
theorem dX4_take_113 : decode cX4_take 113 = .ok (.iconst 0, 1) := by decide +kernel
theorem dX4_take_114 : decode cX4_take 114 = .ok (.iastore, 1) := by decide +kernel
theorem dX4_take_115 : decode cX4_take 115 = .ok (.aload_n 0, 1) := by decide +kernel
theorem dX4_take_116 : decode cX4_take 116 = .ok (.dup, 1) := by decide +kernel
theorem dX4_take_117 : decode cX4_take 117 = .ok (.getfield 27, 3) := by decide +kernel
theorem dX4_take_120 : decode cX4_take 120 = .ok (.iconst 1, 1) := by decide +kernel
theorem dX4_take_121 : decode cX4_take 121 = .ok (.iadd, 1) := by decide +kernel
theorem dX4_take_122 : decode cX4_take 122 = .ok (.putfield 27, 3) := by decide +kernel
theorem dX4_take_125 : decode cX4_take 125 = .ok (.return_, 1) := by decide +kernel
theorem dX4_drop_0 : decode cX4_drop 0 = .ok (.aload_n 0, 1) := by decide +kernel
theorem dX4_drop_1 : decode cX4_drop 1 = .ok (.iload_n 1, 1) := by decide +kernel
theorem dX4_drop_2 : decode cX4_drop 2 = .ok (.invokevirtual 47, 3) := by decide +kernel
theorem dX4_drop_5 : decode cX4_drop 5 = .ok (.ifCond .ne 4, 3) := by decide +kernel
theorem dX4_drop_8 : decode cX4_drop 8 = .ok (.return_, 1) := by decide +kernel
theorem dX4_drop_9 : decode cX4_drop 9 = .ok (.iconst 0, 1) := by decide +kernel
theorem dX4_drop_10 : decode cX4_drop 10 = .ok (.istore_n 2, 1) := by decide +kernel
theorem dX4_drop_11 : decode cX4_drop 11 = .ok (.iload_n 2, 1) := by decide +kernel
theorem dX4_drop_12 : decode cX4_drop 12 = .ok (.sipush 240, 3) := by decide +kernel
theorem dX4_drop_15 : decode cX4_drop 15 = .ok (.if_icmp .ge 49, 3) := by decide +kernel
theorem dX4_drop_18 : decode cX4_drop 18 = .ok (.aload_n 0, 1) := by decide +kernel
theorem dX4_drop_19 : decode cX4_drop 19 = .ok (.getfield 9, 3) := by decide +kernel
theorem dX4_drop_22 : decode cX4_drop 22 = .ok (.iload_n 2, 1) := by decide +kernel
theorem dX4_drop_23 : decode cX4_drop 23 = .ok (.iaload, 1) := by decide +kernel
theorem dX4_drop_24 : decode cX4_drop 24 = .ok (.iload_n 1, 1) := by decide +kernel
theorem dX4_drop_25 : decode cX4_drop 25 = .ok (.if_icmp .ne 13, 3) := by decide +kernel
theorem dX4_drop_28 : decode cX4_drop 28 = .ok (.aload_n 0, 1) := by decide +kernel
theorem dX4_drop_29 : decode cX4_drop 29 = .ok (.getfield 9, 3) := by decide +kernel
theorem dX4_drop_32 : decode cX4_drop 32 = .ok (.iload_n 2, 1) := by decide +kernel
theorem dX4_drop_33 : decode cX4_drop 33 = .ok (.iconst (-1), 1) := by decide +kernel
theorem dX4_drop_34 : decode cX4_drop 34 = .ok (.iastore, 1) := by decide +kernel
theorem dX4_drop_35 : decode cX4_drop 35 = .ok (.goto 23, 3) := by decide +kernel
theorem dX4_drop_38 : decode cX4_drop 38 = .ok (.aload_n 0, 1) := by decide +kernel
theorem dX4_drop_39 : decode cX4_drop 39 = .ok (.getfield 9, 3) := by decide +kernel
theorem dX4_drop_42 : decode cX4_drop 42 = .ok (.iload_n 2, 1) := by decide +kernel
theorem dX4_drop_43 : decode cX4_drop 43 = .ok (.iaload, 1) := by decide +kernel
theorem dX4_drop_44 : decode cX4_drop 44 = .ok (.iload_n 1, 1) := by decide +kernel
theorem dX4_drop_45 : decode cX4_drop 45 = .ok (.if_icmp .le 13, 3) := by decide +kernel
theorem dX4_drop_48 : decode cX4_drop 48 = .ok (.aload_n 0, 1) := by decide +kernel
theorem dX4_drop_49 : decode cX4_drop 49 = .ok (.getfield 9, 3) := by decide +kernel
theorem dX4_drop_52 : decode cX4_drop 52 = .ok (.iload_n 2, 1) := by decide +kernel
theorem dX4_drop_53 : decode cX4_drop 53 = .ok (.dup2, 1) := by decide +kernel
theorem dX4_drop_54 : decode cX4_drop 54 = .ok (.iaload, 1) := by decide +kernel
theorem dX4_drop_55 : decode cX4_drop 55 = .ok (.iconst 1, 1) := by decide +kernel
theorem dX4_drop_56 : decode cX4_drop 56 = .ok (.isub, 1) := by decide +kernel
theorem dX4_drop_57 : decode cX4_drop 57 = .ok (.iastore, 1) := by decide +kernel
theorem dX4_drop_58 : decode cX4_drop 58 = .ok (.iinc 2 1, 3) := by decide +kernel
theorem dX4_drop_61 : decode cX4_drop 61 = .ok (.goto (-50), 3) := by decide +kernel
theorem dX4_drop_64 : decode cX4_drop 64 = .ok (.iload_n 1, 1) := by decide +kernel
theorem dX4_drop_65 : decode cX4_drop 65 = .ok (.iconst 1, 1) := by decide +kernel
theorem dX4_drop_66 : decode cX4_drop 66 = .ok (.iadd, 1) := by decide +kernel
theorem dX4_drop_67 : decode cX4_drop 67 = .ok (.istore_n 2, 1) := by decide +kernel
theorem dX4_drop_68 : decode cX4_drop 68 = .ok (.iload_n 2, 1) := by decide +kernel
theorem dX4_drop_69 : decode cX4_drop 69 = .ok (.aload_n 0, 1) := by decide +kernel
theorem dX4_drop_70 : decode cX4_drop 70 = .ok (.getfield 27, 3) := by decide +kernel
theorem dX4_drop_73 : decode cX4_drop 73 = .ok (.if_icmp .ge 57, 3) := by decide +kernel
theorem dX4_drop_76 : decode cX4_drop 76 = .ok (.iload_n 2, 1) := by decide +kernel
theorem dX4_drop_77 : decode cX4_drop 77 = .ok (.bipush 12, 2) := by decide +kernel
theorem dX4_drop_79 : decode cX4_drop 79 = .ok (.if_icmp .ge 51, 3) := by decide +kernel
theorem dX4_drop_82 : decode cX4_drop 82 = .ok (.aload_n 0, 1) := by decide +kernel
theorem dX4_drop_83 : decode cX4_drop 83 = .ok (.getfield 15, 3) := by decide +kernel
theorem dX4_drop_86 : decode cX4_drop 86 = .ok (.iload_n 2, 1) := by decide +kernel
theorem dX4_drop_87 : decode cX4_drop 87 = .ok (.iconst 1, 1) := by decide +kernel
theorem dX4_drop_88 : decode cX4_drop 88 = .ok (.isub, 1) := by decide +kernel
theorem dX4_drop_89 : decode cX4_drop 89 = .ok (.aload_n 0, 1) := by decide +kernel
theorem dX4_drop_90 : decode cX4_drop 90 = .ok (.getfield 15, 3) := by decide +kernel
theorem dX4_drop_93 : decode cX4_drop 93 = .ok (.iload_n 2, 1) := by decide +kernel
theorem dX4_drop_94 : decode cX4_drop 94 = .ok (.iaload, 1) := by decide +kernel
theorem dX4_drop_95 : decode cX4_drop 95 = .ok (.iastore, 1) := by decide +kernel
theorem dX4_drop_96 : decode cX4_drop 96 = .ok (.aload_n 0, 1) := by decide +kernel
theorem dX4_drop_97 : decode cX4_drop 97 = .ok (.getfield 18, 3) := by decide +kernel
theorem dX4_drop_100 : decode cX4_drop 100 = .ok (.iload_n 2, 1) := by decide +kernel
theorem dX4_drop_101 : decode cX4_drop 101 = .ok (.iconst 1, 1) := by decide +kernel
theorem dX4_drop_102 : decode cX4_drop 102 = .ok (.isub, 1) := by decide +kernel
theorem dX4_drop_103 : decode cX4_drop 103 = .ok (.aload_n 0, 1) := by decide +kernel
theorem dX4_drop_104 : decode cX4_drop 104 = .ok (.getfield 18, 3) := by decide +kernel
theorem dX4_drop_107 : decode cX4_drop 107 = .ok (.iload_n 2, 1) := by decide +kernel
theorem dX4_drop_108 : decode cX4_drop 108 = .ok (.iaload, 1) := by decide +kernel
theorem dX4_drop_109 : decode cX4_drop 109 = .ok (.iastore, 1) := by decide +kernel
theorem dX4_drop_110 : decode cX4_drop 110 = .ok (.aload_n 0, 1) := by decide +kernel
theorem dX4_drop_111 : decode cX4_drop 111 = .ok (.getfield 21, 3) := by decide +kernel
theorem dX4_drop_114 : decode cX4_drop 114 = .ok (.iload_n 2, 1) := by decide +kernel
theorem dX4_drop_115 : decode cX4_drop 115 = .ok (.iconst 1, 1) := by decide +kernel
theorem dX4_drop_116 : decode cX4_drop 116 = .ok (.isub, 1) := by decide +kernel
theorem dX4_drop_117 : decode cX4_drop 117 = .ok (.aload_n 0, 1) := by decide +kernel
theorem dX4_drop_118 : decode cX4_drop 118 = .ok (.getfield 21, 3) := by decide +kernel
theorem dX4_drop_121 : decode cX4_drop 121 = .ok (.iload_n 2, 1) := by decide +kernel
theorem dX4_drop_122 : decode cX4_drop 122 = .ok (.iaload, 1) := by decide +kernel
theorem dX4_drop_123 : decode cX4_drop 123 = .ok (.iastore, 1) := by decide +kernel
theorem dX4_drop_124 : decode cX4_drop 124 = .ok (.iinc 2 1, 3) := by decide +kernel
theorem dX4_drop_127 : decode cX4_drop 127 = .ok (.goto (-59), 3) := by decide +kernel
theorem dX4_drop_130 : decode cX4_drop 130 = .ok (.aload_n 0, 1) := by decide +kernel
theorem dX4_drop_131 : decode cX4_drop 131 = .ok (.dup, 1) := by decide +kernel
theorem dX4_drop_132 : decode cX4_drop 132 = .ok (.getfield 27, 3) := by decide +kernel
theorem dX4_drop_135 : decode cX4_drop 135 = .ok (.iconst 1, 1) := by decide +kernel
theorem dX4_drop_136 : decode cX4_drop 136 = .ok (.isub, 1) := by decide +kernel
theorem dX4_drop_137 : decode cX4_drop 137 = .ok (.putfield 27, 3) := by decide +kernel
theorem dX4_drop_140 : decode cX4_drop 140 = .ok (.return_, 1) := by decide +kernel
theorem dX4_passYear_0 : decode cX4_passYear 0 = .ok (.aload_n 0, 1) := by decide +kernel
theorem dX4_passYear_1 : decode cX4_passYear 1 = .ok (.getfield 27, 3) := by decide +kernel
theorem dX4_passYear_4 : decode cX4_passYear 4 = .ok (.bipush 12, 2) := by decide +kernel
theorem dX4_passYear_6 : decode cX4_passYear 6 = .ok (.invokestatic 60, 3) := by decide +kernel
theorem dX4_passYear_9 : decode cX4_passYear 9 = .ok (.iconst 1, 1) := by decide +kernel
theorem dX4_passYear_10 : decode cX4_passYear 10 = .ok (.isub, 1) := by decide +kernel
theorem dX4_passYear_11 : decode cX4_passYear 11 = .ok (.istore_n 2, 1) := by decide +kernel
theorem dX4_passYear_12 : decode cX4_passYear 12 = .ok (.iload_n 2, 1) := by decide +kernel
theorem dX4_passYear_13 : decode cX4_passYear 13 = .ok (.ifCond .lt 34, 3) := by decide +kernel
theorem dX4_passYear_16 : decode cX4_passYear 16 = .ok (.aload_n 0, 1) := by decide +kernel
theorem dX4_passYear_17 : decode cX4_passYear 17 = .ok (.getfield 21, 3) := by decide +kernel
theorem dX4_passYear_20 : decode cX4_passYear 20 = .ok (.iload_n 2, 1) := by decide +kernel
theorem dX4_passYear_21 : decode cX4_passYear 21 = .ok (.dup2, 1) := by decide +kernel
theorem dX4_passYear_22 : decode cX4_passYear 22 = .ok (.iaload, 1) := by decide +kernel
theorem dX4_passYear_23 : decode cX4_passYear 23 = .ok (.iconst 1, 1) := by decide +kernel
theorem dX4_passYear_24 : decode cX4_passYear 24 = .ok (.iadd, 1) := by decide +kernel
theorem dX4_passYear_25 : decode cX4_passYear 25 = .ok (.iastore, 1) := by decide +kernel
theorem dX4_passYear_26 : decode cX4_passYear 26 = .ok (.aload_n 0, 1) := by decide +kernel
theorem dX4_passYear_27 : decode cX4_passYear 27 = .ok (.getfield 21, 3) := by decide +kernel
theorem dX4_passYear_30 : decode cX4_passYear 30 = .ok (.iload_n 2, 1) := by decide +kernel
theorem dX4_passYear_31 : decode cX4_passYear 31 = .ok (.iaload, 1) := by decide +kernel
theorem dX4_passYear_32 : decode cX4_passYear 32 = .ok (.iload_n 1, 1) := by decide +kernel
theorem dX4_passYear_33 : decode cX4_passYear 33 = .ok (.if_icmp .lt 8, 3) := by decide +kernel
theorem dX4_passYear_36 : decode cX4_passYear 36 = .ok (.aload_n 0, 1) := by decide +kernel
theorem dX4_passYear_37 : decode cX4_passYear 37 = .ok (.iload_n 2, 1) := by decide +kernel
theorem dX4_passYear_38 : decode cX4_passYear 38 = .ok (.invokevirtual 50, 3) := by decide +kernel
theorem dX4_passYear_41 : decode cX4_passYear 41 = .ok (.iinc 2 (-1), 3) := by decide +kernel
theorem dX4_passYear_44 : decode cX4_passYear 44 = .ok (.goto (-32), 3) := by decide +kernel
theorem dX4_passYear_47 : decode cX4_passYear 47 = .ok (.return_, 1) := by decide +kernel
theorem dX5_init_0 : decode cX5_init 0 = .ok (.aload_n 0, 1) := by decide +kernel
theorem dX5_init_1 : decode cX5_init 1 = .ok (.invokespecial 3, 3) := by decide +kernel
theorem dX5_init_4 : decode cX5_init 4 = .ok (.aload_n 0, 1) := by decide +kernel
theorem dX5_init_5 : decode cX5_init 5 = .ok (.bipush 64, 2) := by decide +kernel
theorem dX5_init_7 : decode cX5_init 7 = .ok (.newarray .int, 2) := by decide +kernel
theorem dX5_init_9 : decode cX5_init 9 = .ok (.putfield 11, 3) := by decide +kernel
theorem dX5_init_12 : decode cX5_init 12 = .ok (.aload_n 0, 1) := by decide +kernel
theorem dX5_init_13 : decode cX5_init 13 = .ok (.sipush 150, 3) := by decide +kernel
theorem dX5_init_16 : decode cX5_init 16 = .ok (.newarray .int, 2) := by decide +kernel
theorem dX5_init_18 : decode cX5_init 18 = .ok (.putfield 15, 3) := by decide +kernel
theorem dX5_init_21 : decode cX5_init 21 = .ok (.return_, 1) := by decide +kernel
theorem dX5_length_0 : decode cX5_length 0 = .ok (.aload_n 0, 1) := by decide +kernel
theorem dX5_length_1 : decode cX5_length 1 = .ok (.getfield 18, 3) := by decide +kernel
theorem dX5_length_4 : decode cX5_length 4 = .ok (.ireturn, 1) := by decide +kernel
theorem dX5_stepCount_0 : decode cX5_stepCount 0 = .ok (.aload_n 0, 1) := by decide +kernel
theorem dX5_stepCount_1 : decode cX5_stepCount 1 = .ok (.getfield 22, 3) := by decide +kernel
theorem dX5_stepCount_4 : decode cX5_stepCount 4 = .ok (.ireturn, 1) := by decide +kernel
theorem dX5_clear_0 : decode cX5_clear 0 = .ok (.aload_n 0, 1) := by decide +kernel
theorem dX5_clear_1 : decode cX5_clear 1 = .ok (.iconst 0, 1) := by decide +kernel
theorem dX5_clear_2 : decode cX5_clear 2 = .ok (.putfield 18, 3) := by decide +kernel
theorem dX5_clear_5 : decode cX5_clear 5 = .ok (.return_, 1) := by decide +kernel
theorem dX5_sizeOf_0 : decode cX5_sizeOf 0 = .ok (.iconst 0, 1) := by decide +kernel
theorem dX5_sizeOf_1 : decode cX5_sizeOf 1 = .ok (.istore_n 2, 1) := by decide +kernel
theorem dX5_sizeOf_2 : decode cX5_sizeOf 2 = .ok (.lload_n 0, 1) := by decide +kernel
theorem dX5_sizeOf_3 : decode cX5_sizeOf 3 = .ok (.lstore_n 3, 1) := by decide +kernel
theorem dX5_sizeOf_4 : decode cX5_sizeOf 4 = .ok (.iload_n 2, 1) := by decide +kernel
theorem dX5_sizeOf_5 : decode cX5_sizeOf 5 = .ok (.bipush 8, 2) := by decide +kernel
theorem dX5_sizeOf_7 : decode cX5_sizeOf 7 = .ok (.if_icmp .ge 48, 3) := by decide +kernel
theorem dX5_sizeOf_10 : decode cX5_sizeOf 10 = .ok (.lload_n 3, 1) := by decide +kernel
theorem dX5_sizeOf_11 : decode cX5_sizeOf 11 = .ok (.ldc2_w 25, 3) := by decide +kernel
theorem dX5_sizeOf_14 : decode cX5_sizeOf 14 = .ok (.land, 1) := by decide +kernel
theorem dX5_sizeOf_15 : decode cX5_sizeOf 15 = .ok (.lconst 0, 1) := by decide +kernel
theorem dX5_sizeOf_16 : decode cX5_sizeOf 16 = .ok (.lcmp, 1) := by decide +kernel
theorem dX5_sizeOf_17 : decode cX5_sizeOf 17 = .ok (.ifCond .eq 38, 3) := by decide +kernel
theorem dX5_sizeOf_20 : decode cX5_sizeOf 20 = .ok (.lload_n 3, 1) := by decide +kernel
theorem dX5_sizeOf_21 : decode cX5_sizeOf 21 = .ok (.ldc2_w 25, 3) := by decide +kernel
theorem dX5_sizeOf_24 : decode cX5_sizeOf 24 = .ok (.land, 1) := by decide +kernel
theorem dX5_sizeOf_25 : decode cX5_sizeOf 25 = .ok (.l2i, 1) := by decide +kernel
theorem dX5_sizeOf_26 : decode cX5_sizeOf 26 = .ok (.istore 5, 2) := by decide +kernel
theorem dX5_sizeOf_28 : decode cX5_sizeOf 28 = .ok (.iload 5, 2) := by decide +kernel
theorem dX5_sizeOf_30 : decode cX5_sizeOf 30 = .ok (.bipush 33, 2) := by decide +kernel
theorem dX5_sizeOf_32 : decode cX5_sizeOf 32 = .ok (.if_icmp .lt 10, 3) := by decide +kernel
theorem dX5_sizeOf_35 : decode cX5_sizeOf 35 = .ok (.iload 5, 2) := by decide +kernel
theorem dX5_sizeOf_37 : decode cX5_sizeOf 37 = .ok (.bipush 126, 2) := by decide +kernel
theorem dX5_sizeOf_39 : decode cX5_sizeOf 39 = .ok (.if_icmp .le 5, 3) := by decide +kernel
theorem dX5_sizeOf_42 : decode cX5_sizeOf 42 = .ok (.iconst 0, 1) := by decide +kernel
theorem dX5_sizeOf_43 : decode cX5_sizeOf 43 = .ok (.ireturn, 1) := by decide +kernel
theorem dX5_sizeOf_44 : decode cX5_sizeOf 44 = .ok (.iinc 2 1, 3) := by decide +kernel
theorem dX5_sizeOf_47 : decode cX5_sizeOf 47 = .ok (.lload_n 3, 1) := by decide +kernel
theorem dX5_sizeOf_48 : decode cX5_sizeOf 48 = .ok (.bipush 8, 2) := by decide +kernel
theorem dX5_sizeOf_50 : decode cX5_sizeOf 50 = .ok (.lushr, 1) := by decide +kernel
theorem dX5_sizeOf_51 : decode cX5_sizeOf 51 = .ok (.lstore_n 3, 1) := by decide +kernel
theorem dX5_sizeOf_52 : decode cX5_sizeOf 52 = .ok (.goto (-48), 3) := by decide +kernel
theorem dX5_sizeOf_55 : decode cX5_sizeOf 55 = .ok (.lload_n 3, 1) := by decide +kernel
theorem dX5_sizeOf_56 : decode cX5_sizeOf 56 = .ok (.lconst 0, 1) := by decide +kernel
theorem dX5_sizeOf_57 : decode cX5_sizeOf 57 = .ok (.lcmp, 1) := by decide +kernel
theorem dX5_sizeOf_58 : decode cX5_sizeOf 58 = .ok (.ifCond .ne 7, 3) := by decide +kernel
theorem dX5_sizeOf_61 : decode cX5_sizeOf 61 = .ok (.iload_n 2, 1) := by decide +kernel
theorem dX5_sizeOf_62 : decode cX5_sizeOf 62 = .ok (.goto 4, 3) := by decide +kernel
theorem dX5_sizeOf_65 : decode cX5_sizeOf 65 = .ok (.iconst 0, 1) := by decide +kernel
theorem dX5_sizeOf_66 : decode cX5_sizeOf 66 = .ok (.ireturn, 1) := by decide +kernel
theorem dX5_hasRoomFor_0 : decode cX5_hasRoomFor 0 = .ok (.aload_n 0, 1) := by decide +kernel
theorem dX5_hasRoomFor_1 : decode cX5_hasRoomFor 1 = .ok (.getfield 18, 3) := by decide +kernel
theorem dX5_hasRoomFor_4 : decode cX5_hasRoomFor 4 = .ok (.iload_n 1, 1) := by decide +kernel
theorem dX5_hasRoomFor_5 : decode cX5_hasRoomFor 5 = .ok (.iadd, 1) := by decide +kernel
theorem dX5_hasRoomFor_6 : decode cX5_hasRoomFor 6 = .ok (.bipush 64, 2) := by decide +kernel
theorem dX5_hasRoomFor_8 : decode cX5_hasRoomFor 8 = .ok (.if_icmp .gt 7, 3) := by decide +kernel
theorem dX5_hasRoomFor_11 : decode cX5_hasRoomFor 11 = .ok (.iconst 1, 1) := by decide +kernel
theorem dX5_hasRoomFor_12 : decode cX5_hasRoomFor 12 = .ok (.goto 4, 3) := by decide +kernel
theorem dX5_hasRoomFor_15 : decode cX5_hasRoomFor 15 = .ok (.iconst 0, 1) := by decide +kernel
theorem dX5_hasRoomFor_16 : decode cX5_hasRoomFor 16 = .ok (.ireturn, 1) := by decide +kernel
theorem dX5_append_0 : decode cX5_append 0 = .ok (.lload_n 1, 1) := by decide +kernel
theorem dX5_append_1 : decode cX5_append 1 = .ok (.lstore 4, 2) := by decide +kernel
theorem dX5_append_3 : decode cX5_append 3 = .ok (.aload_n 0, 1) := by decide +kernel
theorem dX5_append_4 : decode cX5_append 4 = .ok (.getfield 18, 3) := by decide +kernel
theorem dX5_append_7 : decode cX5_append 7 = .ok (.iload_n 3, 1) := by decide +kernel
theorem dX5_append_8 : decode cX5_append 8 = .ok (.iadd, 1) := by decide +kernel
theorem dX5_append_9 : decode cX5_append 9 = .ok (.iconst 1, 1) := by decide +kernel
theorem dX5_append_10 : decode cX5_append 10 = .ok (.isub, 1) := by decide +kernel
theorem dX5_append_11 : decode cX5_append 11 = .ok (.istore 6, 2) := by decide +kernel
theorem dX5_append_13 : decode cX5_append 13 = .ok (.iload 6, 2) := by decide +kernel
theorem dX5_append_15 : decode cX5_append 15 = .ok (.aload_n 0, 1) := by decide +kernel
theorem dX5_append_16 : decode cX5_append 16 = .ok (.getfield 18, 3) := by decide +kernel
theorem dX5_append_19 : decode cX5_append 19 = .ok (.if_icmp .lt 42, 3) := by decide +kernel
theorem dX5_append_22 : decode cX5_append 22 = .ok (.iload 6, 2) := by decide +kernel
theorem dX5_append_24 : decode cX5_append 24 = .ok (.ifCond .lt 24, 3) := by decide +kernel
theorem dX5_append_27 : decode cX5_append 27 = .ok (.iload 6, 2) := by decide +kernel
theorem dX5_append_29 : decode cX5_append 29 = .ok (.bipush 64, 2) := by decide +kernel
theorem dX5_append_31 : decode cX5_append 31 = .ok (.if_icmp .ge 17, 3) := by decide +kernel
theorem dX5_append_34 : decode cX5_append 34 = .ok (.aload_n 0, 1) := by decide +kernel
theorem dX5_append_35 : decode cX5_append 35 = .ok (.getfield 11, 3) := by decide +kernel
theorem dX5_append_38 : decode cX5_append 38 = .ok (.iload 6, 2) := by decide +kernel
theorem dX5_append_40 : decode cX5_append 40 = .ok (.lload 4, 2) := by decide +kernel
theorem dX5_append_42 : decode cX5_append 42 = .ok (.ldc2_w 25, 3) := by decide +kernel
theorem dX5_append_45 : decode cX5_append 45 = .ok (.land, 1) := by decide +kernel
theorem dX5_append_46 : decode cX5_append 46 = .ok (.l2i, 1) := by decide +kernel
theorem dX5_append_47 : decode cX5_append 47 = .ok (.iastore, 1) := by decide +kernel
theorem dX5_append_48 : decode cX5_append 48 = .ok (.lload 4, 2) := by decide +kernel
theorem dX5_append_50 : decode cX5_append 50 = .ok (.bipush 8, 2) := by decide +kernel
theorem dX5_append_52 : decode cX5_append 52 = .ok (.lushr, 1) := by decide +kernel
theorem dX5_append_53 : decode cX5_append 53 = .ok (.lstore 4, 2) := by decide +kernel
theorem dX5_append_55 : decode cX5_append 55 = .ok (.iinc 6 (-1), 3) := by decide +kernel
theorem dX5_append_58 : decode cX5_append 58 = .ok (.goto (-45), 3) := by decide +kernel
theorem dX5_append_61 : decode cX5_append 61 = .ok (.aload_n 0, 1) := by decide +kernel
theorem dX5_append_62 : decode cX5_append 62 = .ok (.dup, 1) := by decide +kernel
theorem dX5_append_63 : decode cX5_append 63 = .ok (.getfield 18, 3) := by decide +kernel
theorem dX5_append_66 : decode cX5_append 66 = .ok (.iload_n 3, 1) := by decide +kernel
theorem dX5_append_67 : decode cX5_append 67 = .ok (.iadd, 1) := by decide +kernel
theorem dX5_append_68 : decode cX5_append 68 = .ok (.putfield 18, 3) := by decide +kernel
theorem dX5_append_71 : decode cX5_append 71 = .ok (.return_, 1) := by decide +kernel
theorem dX5_scan_0 : decode cX5_scan 0 = .ok (.aload_n 0, 1) := by decide +kernel
theorem dX5_scan_1 : decode cX5_scan 1 = .ok (.iconst 0, 1) := by decide +kernel
theorem dX5_scan_2 : decode cX5_scan 2 = .ok (.putfield 27, 3) := by decide +kernel
theorem dX5_scan_5 : decode cX5_scan 5 = .ok (.aload_n 0, 1) := by decide +kernel
theorem dX5_scan_6 : decode cX5_scan 6 = .ok (.iconst 0, 1) := by decide +kernel
theorem dX5_scan_7 : decode cX5_scan 7 = .ok (.putfield 22, 3) := by decide +kernel
theorem dX5_scan_10 : decode cX5_scan 10 = .ok (.aload_n 0, 1) := by decide +kernel
theorem dX5_scan_11 : decode cX5_scan 11 = .ok (.aload_n 0, 1) := by decide +kernel
theorem dX5_scan_12 : decode cX5_scan 12 = .ok (.bipush 19, 2) := by decide +kernel
theorem dX5_scan_14 : decode cX5_scan 14 = .ok (.bipush 44, 2) := by decide +kernel
theorem dX5_scan_16 : decode cX5_scan 16 = .ok (.invokevirtual 30, 3) := by decide +kernel
theorem dX5_scan_19 : decode cX5_scan 19 = .ok (.putfield 34, 3) := by decide +kernel
theorem dX5_scan_22 : decode cX5_scan 22 = .ok (.aload_n 0, 1) := by decide +kernel
theorem dX5_scan_23 : decode cX5_scan 23 = .ok (.getfield 34, 3) := by decide +kernel
theorem dX5_scan_26 : decode cX5_scan 26 = .ok (.iconst (-1), 1) := by decide +kernel
theorem dX5_scan_27 : decode cX5_scan 27 = .ok (.if_icmp .ne 8, 3) := by decide +kernel
theorem dX5_scan_30 : decode cX5_scan 30 = .ok (.aload_n 0, 1) := by decide +kernel
theorem dX5_scan_31 : decode cX5_scan 31 = .ok (.getfield 27, 3) := by decide +kernel
theorem dX5_scan_34 : decode cX5_scan 34 = .ok (.ireturn, 1) := by decide +kernel
theorem dX5_scan_35 : decode cX5_scan 35 = .ok (.aload_n 0, 1) := by decide +kernel
theorem dX5_scan_36 : decode cX5_scan 36 = .ok (.aload_n 0, 1) := by decide +kernel
theorem dX5_scan_37 : decode cX5_scan 37 = .ok (.bipush 11, 2) := by decide +kernel
theorem dX5_scan_39 : decode cX5_scan 39 = .ok (.bipush 58, 2) := by decide +kernel
theorem dX5_scan_41 : decode cX5_scan 41 = .ok (.invokevirtual 30, 3) := by decide +kernel
theorem dX5_scan_44 : decode cX5_scan 44 = .ok (.putfield 37, 3) := by decide +kernel
theorem dX5_scan_47 : decode cX5_scan 47 = .ok (.aload_n 0, 1) := by decide +kernel
theorem dX5_scan_48 : decode cX5_scan 48 = .ok (.getfield 37, 3) := by decide +kernel
theorem dX5_scan_51 : decode cX5_scan 51 = .ok (.iconst (-1), 1) := by decide +kernel
theorem dX5_scan_52 : decode cX5_scan 52 = .ok (.if_icmp .ne 8, 3) := by decide +kernel
theorem dX5_scan_55 : decode cX5_scan 55 = .ok (.aload_n 0, 1) := by decide +kernel
theorem dX5_scan_56 : decode cX5_scan 56 = .ok (.getfield 27, 3) := by decide +kernel
theorem dX5_scan_59 : decode cX5_scan 59 = .ok (.ireturn, 1) := by decide +kernel
theorem dX5_scan_60 : decode cX5_scan 60 = .ok (.aload_n 0, 1) := by decide +kernel
theorem dX5_scan_61 : decode cX5_scan 61 = .ok (.invokevirtual 40, 3) := by decide +kernel
theorem dX5_scan_64 : decode cX5_scan 64 = .ok (.ifCond .eq 8, 3) := by decide +kernel
theorem dX5_scan_67 : decode cX5_scan 67 = .ok (.bipush (-6), 2) := by decide +kernel
theorem dX5_scan_69 : decode cX5_scan 69 = .ok (.goto 7, 3) := by decide +kernel
theorem dX5_scan_72 : decode cX5_scan 72 = .ok (.aload_n 0, 1) := by decide +kernel
theorem dX5_scan_73 : decode cX5_scan 73 = .ok (.getfield 27, 3) := by decide +kernel
theorem dX5_scan_76 : decode cX5_scan 76 = .ok (.ireturn, 1) := by decide +kernel
theorem dX5_scanNumber_0 : decode cX5_scanNumber 0 = .ok (.aload_n 0, 1) := by decide +kernel
theorem dX5_scanNumber_1 : decode cX5_scanNumber 1 = .ok (.aload_n 0, 1) := by decide +kernel
theorem dX5_scanNumber_2 : decode cX5_scanNumber 2 = .ok (.getfield 27, 3) := by decide +kernel
theorem dX5_scanNumber_5 : decode cX5_scanNumber 5 = .ok (.invokevirtual 44, 3) := by decide +kernel
theorem dX5_scanNumber_8 : decode cX5_scanNumber 8 = .ok (.istore_n 3, 1) := by decide +kernel
theorem dX5_scanNumber_9 : decode cX5_scanNumber 9 = .ok (.iload_n 3, 1) := by decide +kernel
theorem dX5_scanNumber_10 : decode cX5_scanNumber 10 = .ok (.iconst (-1), 1) := by decide +kernel
theorem dX5_scanNumber_11 : decode cX5_scanNumber 11 = .ok (.if_icmp .ne 5, 3) := by decide +kernel
theorem dX5_scanNumber_14 : decode cX5_scanNumber 14 = .ok (.iconst (-1), 1) := by decide +kernel
theorem dX5_scanNumber_15 : decode cX5_scanNumber 15 = .ok (.ireturn, 1) := by decide +kernel
theorem dX5_scanNumber_16 : decode cX5_scanNumber 16 = .ok (.aload_n 0, 1) := by decide +kernel
theorem dX5_scanNumber_17 : decode cX5_scanNumber 17 = .ok (.dup, 1) := by decide +kernel
theorem dX5_scanNumber_18 : decode cX5_scanNumber 18 = .ok (.getfield 27, 3) := by decide +kernel
theorem dX5_scanNumber_21 : decode cX5_scanNumber 21 = .ok (.iconst 1, 1) := by decide +kernel
theorem dX5_scanNumber_22 : decode cX5_scanNumber 22 = .ok (.iadd, 1) := by decide +kernel
theorem dX5_scanNumber_23 : decode cX5_scanNumber 23 = .ok (.putfield 27, 3) := by decide +kernel
theorem dX5_scanNumber_26 : decode cX5_scanNumber 26 = .ok (.aload_n 0, 1) := by decide +kernel
theorem dX5_scanNumber_27 : decode cX5_scanNumber 27 = .ok (.aload_n 0, 1) := by decide +kernel
theorem dX5_scanNumber_28 : decode cX5_scanNumber 28 = .ok (.getfield 27, 3) := by decide +kernel
theorem dX5_scanNumber_31 : decode cX5_scanNumber 31 = .ok (.invokevirtual 44, 3) := by decide +kernel
theorem dX5_scanNumber_34 : decode cX5_scanNumber 34 = .ok (.istore 4, 2) := by decide +kernel
theorem dX5_scanNumber_36 : decode cX5_scanNumber 36 = .ok (.iload 4, 2) := by decide +kernel
theorem dX5_scanNumber_38 : decode cX5_scanNumber 38 = .ok (.iconst (-1), 1) := by decide +kernel
theorem dX5_scanNumber_39 : decode cX5_scanNumber 39 = .ok (.if_icmp .eq 36, 3) := by decide +kernel
theorem dX5_scanNumber_42 : decode cX5_scanNumber 42 = .ok (.iload_n 3, 1) := by decide +kernel
theorem dX5_scanNumber_43 : decode cX5_scanNumber 43 = .ok (.ifCond .le 32, 3) := by decide +kernel
theorem dX5_scanNumber_46 : decode cX5_scanNumber 46 = .ok (.iload_n 3, 1) := by decide +kernel
theorem dX5_scanNumber_47 : decode cX5_scanNumber 47 = .ok (.bipush 10, 2) := by decide +kernel
theorem dX5_scanNumber_49 : decode cX5_scanNumber 49 = .ok (.imul, 1) := by decide +kernel
theorem dX5_scanNumber_50 : decode cX5_scanNumber 50 = .ok (.iload 4, 2) := by decide +kernel
theorem dX5_scanNumber_52 : decode cX5_scanNumber 52 = .ok (.iadd, 1) := by decide +kernel
theorem dX5_scanNumber_53 : decode cX5_scanNumber 53 = .ok (.iload_n 1, 1) := by decide +kernel
theorem dX5_scanNumber_54 : decode cX5_scanNumber 54 = .ok (.if_icmp .gt 21, 3) := by decide +kernel
theorem dX5_scanNumber_57 : decode cX5_scanNumber 57 = .ok (.iload_n 3, 1) := by decide +kernel
theorem dX5_scanNumber_58 : decode cX5_scanNumber 58 = .ok (.bipush 10, 2) := by decide +kernel
theorem dX5_scanNumber_60 : decode cX5_scanNumber 60 = .ok (.imul, 1) := by decide +kernel
theorem dX5_scanNumber_61 : decode cX5_scanNumber 61 = .ok (.iload 4, 2) := by decide +kernel
theorem dX5_scanNumber_63 : decode cX5_scanNumber 63 = .ok (.iadd, 1) := by decide +kernel
theorem dX5_scanNumber_64 : decode cX5_scanNumber 64 = .ok (.istore_n 3, 1) := by decide +kernel
theorem dX5_scanNumber_65 : decode cX5_scanNumber 65 = .ok (.aload_n 0, 1) := by decide +kernel
theorem dX5_scanNumber_66 : decode cX5_scanNumber 66 = .ok (.dup, 1) := by decide +kernel
theorem dX5_scanNumber_67 : decode cX5_scanNumber 67 = .ok (.getfield 27, 3) := by decide +kernel
theorem dX5_scanNumber_70 : decode cX5_scanNumber 70 = .ok (.iconst 1, 1) := by decide +kernel
theorem dX5_scanNumber_71 : decode cX5_scanNumber 71 = .ok (.iadd, 1) := by decide +kernel
theorem dX5_scanNumber_72 : decode cX5_scanNumber 72 = .ok (.putfield 27, 3) := by decide +kernel
theorem dX5_scanNumber_75 : decode cX5_scanNumber 75 = .ok (.aload_n 0, 1) := by decide +kernel
theorem dX5_scanNumber_76 : decode cX5_scanNumber 76 = .ok (.aload_n 0, 1) := by decide +kernel
theorem dX5_scanNumber_77 : decode cX5_scanNumber 77 = .ok (.getfield 27, 3) := by decide +kernel
theorem dX5_scanNumber_80 : decode cX5_scanNumber 80 = .ok (.invokevirtual 48, 3) := by decide +kernel
theorem dX5_scanNumber_83 : decode cX5_scanNumber 83 = .ok (.iload_n 2, 1) := by decide +kernel
theorem dX5_scanNumber_84 : decode cX5_scanNumber 84 = .ok (.if_icmp .eq 5, 3) := by decide +kernel
theorem dX5_scanNumber_87 : decode cX5_scanNumber 87 = .ok (.iconst (-1), 1) := by decide +kernel
theorem dX5_scanNumber_88 : decode cX5_scanNumber 88 = .ok (.ireturn, 1) := by decide +kernel
theorem dX5_scanNumber_89 : decode cX5_scanNumber 89 = .ok (.aload_n 0, 1) := by decide +kernel
theorem dX5_scanNumber_90 : decode cX5_scanNumber 90 = .ok (.dup, 1) := by decide +kernel
theorem dX5_scanNumber_91 : decode cX5_scanNumber 91 = .ok (.getfield 27, 3) := by decide +kernel
theorem dX5_scanNumber_94 : decode cX5_scanNumber 94 = .ok (.iconst 1, 1) := by decide +kernel
theorem dX5_scanNumber_95 : decode cX5_scanNumber 95 = .ok (.iadd, 1) := by decide +kernel
theorem dX5_scanNumber_96 : decode cX5_scanNumber 96 = .ok (.putfield 27, 3) := by decide +kernel
theorem dX5_scanNumber_99 : decode cX5_scanNumber 99 = .ok (.iload_n 3, 1) := by decide +kernel
theorem dX5_scanNumber_100 : decode cX5_scanNumber 100 = .ok (.ireturn, 1) := by decide +kernel
theorem dX5_scanSteps_0 : decode cX5_scanSteps 0 = .ok (.aload_n 0, 1) := by decide +kernel
theorem dX5_scanSteps_1 : decode cX5_scanSteps 1 = .ok (.getfield 27, 3) := by decide +kernel
theorem dX5_scanSteps_4 : decode cX5_scanSteps 4 = .ok (.aload_n 0, 1) := by decide +kernel
theorem dX5_scanSteps_5 : decode cX5_scanSteps 5 = .ok (.getfield 18, 3) := by decide +kernel
theorem dX5_scanSteps_8 : decode cX5_scanSteps 8 = .ok (.if_icmp .ge 71, 3) := by decide +kernel
theorem dX5_scanSteps_11 : decode cX5_scanSteps 11 = .ok (.aload_n 0, 1) := by decide +kernel
theorem dX5_scanSteps_12 : decode cX5_scanSteps 12 = .ok (.aload_n 0, 1) := by decide +kernel
theorem dX5_scanSteps_13 : decode cX5_scanSteps 13 = .ok (.getfield 27, 3) := by decide +kernel
theorem dX5_scanSteps_16 : decode cX5_scanSteps 16 = .ok (.invokevirtual 51, 3) := by decide +kernel
theorem dX5_scanSteps_19 : decode cX5_scanSteps 19 = .ok (.istore_n 1, 1) := by decide +kernel
theorem dX5_scanSteps_20 : decode cX5_scanSteps 20 = .ok (.iload_n 1, 1) := by decide +kernel
theorem dX5_scanSteps_21 : decode cX5_scanSteps 21 = .ok (.iconst (-1), 1) := by decide +kernel
theorem dX5_scanSteps_22 : decode cX5_scanSteps 22 = .ok (.if_icmp .ne 5, 3) := by decide +kernel
theorem dX5_scanSteps_25 : decode cX5_scanSteps 25 = .ok (.iconst 0, 1) := by decide +kernel
theorem dX5_scanSteps_26 : decode cX5_scanSteps 26 = .ok (.ireturn, 1) := by decide +kernel
theorem dX5_scanSteps_27 : decode cX5_scanSteps 27 = .ok (.aload_n 0, 1) := by decide +kernel
theorem dX5_scanSteps_28 : decode cX5_scanSteps 28 = .ok (.dup, 1) := by decide +kernel
theorem dX5_scanSteps_29 : decode cX5_scanSteps 29 = .ok (.getfield 27, 3) := by decide +kernel
theorem dX5_scanSteps_32 : decode cX5_scanSteps 32 = .ok (.iconst 1, 1) := by decide +kernel
theorem dX5_scanSteps_33 : decode cX5_scanSteps 33 = .ok (.iadd, 1) := by decide +kernel
theorem dX5_scanSteps_34 : decode cX5_scanSteps 34 = .ok (.putfield 27, 3) := by decide +kernel
theorem dX5_scanSteps_37 : decode cX5_scanSteps 37 = .ok (.iconst 1, 1) := by decide +kernel
theorem dX5_scanSteps_38 : decode cX5_scanSteps 38 = .ok (.istore_n 2, 1) := by decide +kernel
theorem dX5_scanSteps_39 : decode cX5_scanSteps 39 = .ok (.aload_n 0, 1) := by decide +kernel
theorem dX5_scanSteps_40 : decode cX5_scanSteps 40 = .ok (.aload_n 0, 1) := by decide +kernel
theorem dX5_scanSteps_41 : decode cX5_scanSteps 41 = .ok (.getfield 27, 3) := by decide +kernel
theorem dX5_scanSteps_44 : decode cX5_scanSteps 44 = .ok (.invokevirtual 44, 3) := by decide +kernel
theorem dX5_scanSteps_47 : decode cX5_scanSteps 47 = .ok (.iconst 2, 1) := by decide +kernel
theorem dX5_scanSteps_48 : decode cX5_scanSteps 48 = .ok (.if_icmp .lt 22, 3) := by decide +kernel
theorem dX5_scanSteps_51 : decode cX5_scanSteps 51 = .ok (.aload_n 0, 1) := by decide +kernel
theorem dX5_scanSteps_52 : decode cX5_scanSteps 52 = .ok (.aload_n 0, 1) := by decide +kernel
theorem dX5_scanSteps_53 : decode cX5_scanSteps 53 = .ok (.getfield 27, 3) := by decide +kernel
theorem dX5_scanSteps_56 : decode cX5_scanSteps 56 = .ok (.invokevirtual 44, 3) := by decide +kernel
theorem dX5_scanSteps_59 : decode cX5_scanSteps 59 = .ok (.istore_n 2, 1) := by decide +kernel
theorem dX5_scanSteps_60 : decode cX5_scanSteps 60 = .ok (.aload_n 0, 1) := by decide +kernel
theorem dX5_scanSteps_61 : decode cX5_scanSteps 61 = .ok (.dup, 1) := by decide +kernel
theorem dX5_scanSteps_62 : decode cX5_scanSteps 62 = .ok (.getfield 27, 3) := by decide +kernel
theorem dX5_scanSteps_65 : decode cX5_scanSteps 65 = .ok (.iconst 1, 1) := by decide +kernel
theorem dX5_scanSteps_66 : decode cX5_scanSteps 66 = .ok (.iadd, 1) := by decide +kernel
theorem dX5_scanSteps_67 : decode cX5_scanSteps 67 = .ok (.putfield 27, 3) := by decide +kernel
theorem dX5_scanSteps_70 : decode cX5_scanSteps 70 = .ok (.aload_n 0, 1) := by decide +kernel
theorem dX5_scanSteps_71 : decode cX5_scanSteps 71 = .ok (.iload_n 1, 1) := by decide +kernel
theorem dX5_scanSteps_72 : decode cX5_scanSteps 72 = .ok (.iload_n 2, 1) := by decide +kernel
theorem dX5_scanSteps_73 : decode cX5_scanSteps 73 = .ok (.invokevirtual 54, 3) := by decide +kernel
theorem dX5_scanSteps_76 : decode cX5_scanSteps 76 = .ok (.goto (-76), 3) := by decide +kernel
theorem dX5_scanSteps_79 : decode cX5_scanSteps 79 = .ok (.aload_n 0, 1) := by decide +kernel
theorem dX5_scanSteps_80 : decode cX5_scanSteps 80 = .ok (.getfield 22, 3) := by decide +kernel
theorem dX5_scanSteps_83 : decode cX5_scanSteps 83 = .ok (.ifCond .le 7, 3) := by decide +kernel
theorem dX5_scanSteps_86 : decode cX5_scanSteps 86 = .ok (.iconst 1, 1) := by decide +kernel
theorem dX5_scanSteps_87 : decode cX5_scanSteps 87 = .ok (.goto 4, 3) := by decide +kernel
theorem dX5_scanSteps_90 : decode cX5_scanSteps 90 = .ok (.iconst 0, 1) := by decide +kernel
theorem dX5_scanSteps_91 : decode cX5_scanSteps 91 = .ok (.ireturn, 1) := by decide +kernel
theorem dX5_addSteps_0 : decode cX5_addSteps 0 = .ok (.iconst 0, 1) := by decide +kernel
theorem dX5_addSteps_1 : decode cX5_addSteps 1 = .ok (.istore_n 3, 1) := by decide +kernel
theorem dX5_addSteps_2 : decode cX5_addSteps 2 = .ok (.iload_n 3, 1) := by decide +kernel
theorem dX5_addSteps_3 : decode cX5_addSteps 3 = .ok (.iload_n 2, 1) := by decide +kernel
theorem dX5_addSteps_4 : decode cX5_addSteps 4 = .ok (.if_icmp .ge 46, 3) := by decide +kernel
theorem dX5_addSteps_7 : decode cX5_addSteps 7 = .ok (.aload_n 0, 1) := by decide +kernel
theorem dX5_addSteps_8 : decode cX5_addSteps 8 = .ok (.getfield 22, 3) := by decide +kernel
theorem dX5_addSteps_11 : decode cX5_addSteps 11 = .ok (.ifCond .lt 23, 3) := by decide +kernel
theorem dX5_addSteps_14 : decode cX5_addSteps 14 = .ok (.aload_n 0, 1) := by decide +kernel
theorem dX5_addSteps_15 : decode cX5_addSteps 15 = .ok (.getfield 22, 3) := by decide +kernel
theorem dX5_addSteps_18 : decode cX5_addSteps 18 = .ok (.sipush 150, 3) := by decide +kernel
theorem dX5_addSteps_21 : decode cX5_addSteps 21 = .ok (.if_icmp .ge 13, 3) := by decide +kernel
theorem dX5_addSteps_24 : decode cX5_addSteps 24 = .ok (.aload_n 0, 1) := by decide +kernel
theorem dX5_addSteps_25 : decode cX5_addSteps 25 = .ok (.getfield 15, 3) := by decide +kernel
theorem dX5_addSteps_28 : decode cX5_addSteps 28 = .ok (.aload_n 0, 1) := by decide +kernel
theorem dX5_addSteps_29 : decode cX5_addSteps 29 = .ok (.getfield 22, 3) := by decide +kernel
theorem dX5_addSteps_32 : decode cX5_addSteps 32 = .ok (.iload_n 1, 1) := by decide +kernel
theorem dX5_addSteps_33 : decode cX5_addSteps 33 = .ok (.iastore, 1) := by decide +kernel
theorem dX5_addSteps_34 : decode cX5_addSteps 34 = .ok (.aload_n 0, 1) := by decide +kernel
theorem dX5_addSteps_35 : decode cX5_addSteps 35 = .ok (.dup, 1) := by decide +kernel
theorem dX5_addSteps_36 : decode cX5_addSteps 36 = .ok (.getfield 22, 3) := by decide +kernel
theorem dX5_addSteps_39 : decode cX5_addSteps 39 = .ok (.iconst 1, 1) := by decide +kernel
theorem dX5_addSteps_40 : decode cX5_addSteps 40 = .ok (.iadd, 1) := by decide +kernel
theorem dX5_addSteps_41 : decode cX5_addSteps 41 = .ok (.putfield 22, 3) := by decide +kernel
theorem dX5_addSteps_44 : decode cX5_addSteps 44 = .ok (.iinc 3 1, 3) := by decide +kernel
theorem dX5_addSteps_47 : decode cX5_addSteps 47 = .ok (.goto (-45), 3) := by decide +kernel
theorem dX5_addSteps_50 : decode cX5_addSteps 50 = .ok (.return_, 1) := by decide +kernel
theorem dX5_signAt_0 : decode cX5_signAt 0 = .ok (.iload_n 1, 1) := by decide +kernel
theorem dX5_signAt_1 : decode cX5_signAt 1 = .ok (.ifCond .lt 26, 3) := by decide +kernel
theorem dX5_signAt_4 : decode cX5_signAt 4 = .ok (.iload_n 1, 1) := by decide +kernel
theorem dX5_signAt_5 : decode cX5_signAt 5 = .ok (.aload_n 0, 1) := by decide +kernel
theorem dX5_signAt_6 : decode cX5_signAt 6 = .ok (.getfield 18, 3) := by decide +kernel
theorem dX5_signAt_9 : decode cX5_signAt 9 = .ok (.if_icmp .ge 18, 3) := by decide +kernel
theorem dX5_signAt_12 : decode cX5_signAt 12 = .ok (.iload_n 1, 1) := by decide +kernel
theorem dX5_signAt_13 : decode cX5_signAt 13 = .ok (.bipush 64, 2) := by decide +kernel
theorem dX5_signAt_15 : decode cX5_signAt 15 = .ok (.if_icmp .ge 12, 3) := by decide +kernel
theorem dX5_signAt_18 : decode cX5_signAt 18 = .ok (.aload_n 0, 1) := by decide +kernel
theorem dX5_signAt_19 : decode cX5_signAt 19 = .ok (.getfield 11, 3) := by decide +kernel
theorem dX5_signAt_22 : decode cX5_signAt 22 = .ok (.iload_n 1, 1) := by decide +kernel
theorem dX5_signAt_23 : decode cX5_signAt 23 = .ok (.iaload, 1) := by decide +kernel
theorem dX5_signAt_24 : decode cX5_signAt 24 = .ok (.goto 4, 3) := by decide +kernel
theorem dX5_signAt_27 : decode cX5_signAt 27 = .ok (.iconst 0, 1) := by decide +kernel
theorem dX5_signAt_28 : decode cX5_signAt 28 = .ok (.ireturn, 1) := by decide +kernel
theorem dX5_digitAt_0 : decode cX5_digitAt 0 = .ok (.aload_n 0, 1) := by decide +kernel
theorem dX5_digitAt_1 : decode cX5_digitAt 1 = .ok (.iload_n 1, 1) := by decide +kernel
theorem dX5_digitAt_2 : decode cX5_digitAt 2 = .ok (.invokevirtual 48, 3) := by decide +kernel
theorem dX5_digitAt_5 : decode cX5_digitAt 5 = .ok (.istore_n 2, 1) := by decide +kernel
theorem dX5_digitAt_6 : decode cX5_digitAt 6 = .ok (.iload_n 2, 1) := by decide +kernel
theorem dX5_digitAt_7 : decode cX5_digitAt 7 = .ok (.bipush 48, 2) := by decide +kernel
theorem dX5_digitAt_9 : decode cX5_digitAt 9 = .ok (.if_icmp .lt 16, 3) := by decide +kernel
theorem dX5_digitAt_12 : decode cX5_digitAt 12 = .ok (.iload_n 2, 1) := by decide +kernel
theorem dX5_digitAt_13 : decode cX5_digitAt 13 = .ok (.bipush 57, 2) := by decide +kernel
theorem dX5_digitAt_15 : decode cX5_digitAt 15 = .ok (.if_icmp .gt 10, 3) := by decide +kernel
theorem dX5_digitAt_18 : decode cX5_digitAt 18 = .ok (.iload_n 2, 1) := by decide +kernel
theorem dX5_digitAt_19 : decode cX5_digitAt 19 = .ok (.bipush 48, 2) := by decide +kernel
theorem dX5_digitAt_21 : decode cX5_digitAt 21 = .ok (.isub, 1) := by decide +kernel
theorem dX5_digitAt_22 : decode cX5_digitAt 22 = .ok (.goto 4, 3) := by decide +kernel
theorem dX5_digitAt_25 : decode cX5_digitAt 25 = .ok (.iconst (-1), 1) := by decide +kernel
theorem dX5_digitAt_26 : decode cX5_digitAt 26 = .ok (.ireturn, 1) := by decide +kernel
theorem dX5_wayAt_0 : decode cX5_wayAt 0 = .ok (.aload_n 0, 1) := by decide +kernel
theorem dX5_wayAt_1 : decode cX5_wayAt 1 = .ok (.iload_n 1, 1) := by decide +kernel
theorem dX5_wayAt_2 : decode cX5_wayAt 2 = .ok (.invokevirtual 48, 3) := by decide +kernel
theorem dX5_wayAt_5 : decode cX5_wayAt 5 = .ok (.lookupswitch 51 #[(100, 49), (108, 47), (114, 43), (117, 45)], 43) := by decide +kernel
theorem dX5_wayAt_48 : decode cX5_wayAt 48 = .ok (.iconst 0, 1) := by decide +kernel
theorem dX5_wayAt_49 : decode cX5_wayAt 49 = .ok (.ireturn, 1) := by decide +kernel
theorem dX5_wayAt_50 : decode cX5_wayAt 50 = .ok (.iconst 1, 1) := by decide +kernel
theorem dX5_wayAt_51 : decode cX5_wayAt 51 = .ok (.ireturn, 1) := by decide +kernel
theorem dX5_wayAt_52 : decode cX5_wayAt 52 = .ok (.iconst 2, 1) := by decide +kernel
theorem dX5_wayAt_53 : decode cX5_wayAt 53 = .ok (.ireturn, 1) := by decide +kernel
theorem dX5_wayAt_54 : decode cX5_wayAt 54 = .ok (.iconst 3, 1) := by decide +kernel
theorem dX5_wayAt_55 : decode cX5_wayAt 55 = .ok (.ireturn, 1) := by decide +kernel
theorem dX5_wayAt_56 : decode cX5_wayAt 56 = .ok (.iconst (-1), 1) := by decide +kernel
theorem dX5_wayAt_57 : decode cX5_wayAt 57 = .ok (.ireturn, 1) := by decide +kernel
theorem dX5_layCourse_0 : decode cX5_layCourse 0 = .ok (.aload_n 0, 1) := by decide +kernel
theorem dX5_layCourse_1 : decode cX5_layCourse 1 = .ok (.getfield 34, 3) := by decide +kernel
theorem dX5_layCourse_4 : decode cX5_layCourse 4 = .ok (.aload_n 0, 1) := by decide +kernel
theorem dX5_layCourse_5 : decode cX5_layCourse 5 = .ok (.getfield 37, 3) := by decide +kernel
theorem dX5_layCourse_8 : decode cX5_layCourse 8 = .ok (.invokestatic 58, 3) := by decide +kernel
theorem dX5_layCourse_11 : decode cX5_layCourse 11 = .ok (.istore_n 2, 1) := by decide +kernel
theorem dX5_layCourse_12 : decode cX5_layCourse 12 = .ok (.aload_n 1, 1) := by decide +kernel
theorem dX5_layCourse_13 : decode cX5_layCourse 13 = .ok (.iload_n 2, 1) := by decide +kernel
theorem dX5_layCourse_14 : decode cX5_layCourse 14 = .ok (.invokevirtual 62, 3) := by decide +kernel
theorem dX5_layCourse_17 : decode cX5_layCourse 17 = .ok (.istore_n 3, 1) := by decide +kernel
theorem dX5_layCourse_18 : decode cX5_layCourse 18 = .ok (.iconst 0, 1) := by decide +kernel
theorem dX5_layCourse_19 : decode cX5_layCourse 19 = .ok (.istore 4, 2) := by decide +kernel
theorem dX5_layCourse_21 : decode cX5_layCourse 21 = .ok (.iload_n 3, 1) := by decide +kernel
theorem dX5_layCourse_22 : decode cX5_layCourse 22 = .ok (.ifCond .eq 44, 3) := by decide +kernel
theorem dX5_layCourse_25 : decode cX5_layCourse 25 = .ok (.iload 4, 2) := by decide +kernel
theorem dX5_layCourse_27 : decode cX5_layCourse 27 = .ok (.aload_n 0, 1) := by decide +kernel
theorem dX5_layCourse_28 : decode cX5_layCourse 28 = .ok (.getfield 22, 3) := by decide +kernel
theorem dX5_layCourse_31 : decode cX5_layCourse 31 = .ok (.if_icmp .ge 35, 3) := by decide +kernel
theorem dX5_layCourse_34 : decode cX5_layCourse 34 = .ok (.iload 4, 2) := by decide +kernel
theorem dX5_layCourse_36 : decode cX5_layCourse 36 = .ok (.sipush 150, 3) := by decide +kernel
theorem dX5_layCourse_39 : decode cX5_layCourse 39 = .ok (.if_icmp .ge 27, 3) := by decide +kernel
theorem dX5_layCourse_42 : decode cX5_layCourse 42 = .ok (.iload_n 2, 1) := by decide +kernel
theorem dX5_layCourse_43 : decode cX5_layCourse 43 = .ok (.aload_n 0, 1) := by decide +kernel
theorem dX5_layCourse_44 : decode cX5_layCourse 44 = .ok (.getfield 15, 3) := by decide +kernel
theorem dX5_layCourse_47 : decode cX5_layCourse 47 = .ok (.iload 4, 2) := by decide +kernel
theorem dX5_layCourse_49 : decode cX5_layCourse 49 = .ok (.iaload, 1) := by decide +kernel
theorem dX5_layCourse_50 : decode cX5_layCourse 50 = .ok (.invokestatic 68, 3) := by decide +kernel
theorem dX5_layCourse_53 : decode cX5_layCourse 53 = .ok (.istore_n 2, 1) := by decide +kernel
theorem dX5_layCourse_54 : decode cX5_layCourse 54 = .ok (.aload_n 1, 1) := by decide +kernel
theorem dX5_layCourse_55 : decode cX5_layCourse 55 = .ok (.iload_n 2, 1) := by decide +kernel
theorem dX5_layCourse_56 : decode cX5_layCourse 56 = .ok (.invokevirtual 62, 3) := by decide +kernel
theorem dX5_layCourse_59 : decode cX5_layCourse 59 = .ok (.istore_n 3, 1) := by decide +kernel
theorem dX5_layCourse_60 : decode cX5_layCourse 60 = .ok (.iinc 4 1, 3) := by decide +kernel
theorem dX5_layCourse_63 : decode cX5_layCourse 63 = .ok (.goto (-42), 3) := by decide +kernel
theorem dX5_layCourse_66 : decode cX5_layCourse 66 = .ok (.iload_n 3, 1) := by decide +kernel
theorem dX5_layCourse_67 : decode cX5_layCourse 67 = .ok (.ireturn, 1) := by decide +kernel
theorem dX6_init_0 : decode cX6_init 0 = .ok (.aload_n 0, 1) := by decide +kernel
theorem dX6_init_1 : decode cX6_init 1 = .ok (.invokespecial 3, 3) := by decide +kernel
theorem dX6_init_4 : decode cX6_init 4 = .ok (.aload_n 0, 1) := by decide +kernel
theorem dX6_init_5 : decode cX6_init 5 = .ok (.new 9, 3) := by decide +kernel
theorem dX6_init_8 : decode cX6_init 8 = .ok (.dup, 1) := by decide +kernel
theorem dX6_init_9 : decode cX6_init 9 = .ok (.invokespecial 11, 3) := by decide +kernel
theorem dX6_init_12 : decode cX6_init 12 = .ok (.putfield 12, 3) := by decide +kernel
theorem dX6_init_15 : decode cX6_init 15 = .ok (.aload_n 0, 1) := by decide +kernel
theorem dX6_init_16 : decode cX6_init 16 = .ok (.new 18, 3) := by decide +kernel
theorem dX6_init_19 : decode cX6_init 19 = .ok (.dup, 1) := by decide +kernel
theorem dX6_init_20 : decode cX6_init 20 = .ok (.invokespecial 20, 3) := by decide +kernel
theorem dX6_init_23 : decode cX6_init 23 = .ok (.putfield 21, 3) := by decide +kernel
theorem dX6_init_26 : decode cX6_init 26 = .ok (.aload_n 0, 1) := by decide +kernel
theorem dX6_init_27 : decode cX6_init 27 = .ok (.iconst (-1), 1) := by decide +kernel
theorem dX6_init_28 : decode cX6_init 28 = .ok (.putfield 25, 3) := by decide +kernel
theorem dX6_init_31 : decode cX6_init 31 = .ok (.return_, 1) := by decide +kernel
theorem dX6_watch_0 : decode cX6_watch 0 = .ok (.aload_n 0, 1) := by decide +kernel
theorem dX6_watch_1 : decode cX6_watch 1 = .ok (.iload_n 1, 1) := by decide +kernel
theorem dX6_watch_2 : decode cX6_watch 2 = .ok (.putfield 25, 3) := by decide +kernel
theorem dX6_watch_5 : decode cX6_watch 5 = .ok (.aload_n 0, 1) := by decide +kernel
theorem dX6_watch_6 : decode cX6_watch 6 = .ok (.iconst 0, 1) := by decide +kernel
theorem dX6_watch_7 : decode cX6_watch 7 = .ok (.putfield 29, 3) := by decide +kernel
theorem dX6_watch_10 : decode cX6_watch 10 = .ok (.return_, 1) := by decide +kernel
theorem dX6_passYear_0 : decode cX6_passYear 0 = .ok (.aload_n 1, 1) := by decide +kernel
theorem dX6_passYear_1 : decode cX6_passYear 1 = .ok (.aload_n 1, 1) := by decide +kernel
theorem dX6_passYear_2 : decode cX6_passYear 2 = .ok (.getfield 33, 3) := by decide +kernel
theorem dX6_passYear_5 : decode cX6_passYear 5 = .ok (.invokevirtual 38, 3) := by decide +kernel
theorem dX6_passYear_8 : decode cX6_passYear 8 = .ok (.istore_n 2, 1) := by decide +kernel
theorem dX6_passYear_9 : decode cX6_passYear 9 = .ok (.aload_n 0, 1) := by decide +kernel
theorem dX6_passYear_10 : decode cX6_passYear 10 = .ok (.aload_n 1, 1) := by decide +kernel
theorem dX6_passYear_11 : decode cX6_passYear 11 = .ok (.iload_n 2, 1) := by decide +kernel
theorem dX6_passYear_12 : decode cX6_passYear 12 = .ok (.invokevirtual 42, 3) := by decide +kernel
theorem dX6_passYear_15 : decode cX6_passYear 15 = .ok (.aload_n 0, 1) := by decide +kernel
theorem dX6_passYear_16 : decode cX6_passYear 16 = .ok (.aload_n 1, 1) := by decide +kernel
theorem dX6_passYear_17 : decode cX6_passYear 17 = .ok (.invokevirtual 46, 3) := by decide +kernel
theorem dX6_passYear_20 : decode cX6_passYear 20 = .ok (.aload_n 1, 1) := by decide +kernel
theorem dX6_passYear_21 : decode cX6_passYear 21 = .ok (.invokevirtual 50, 3) := by decide +kernel
theorem dX6_passYear_24 : decode cX6_passYear 24 = .ok (.aload_n 0, 1) := by decide +kernel
theorem dX6_passYear_25 : decode cX6_passYear 25 = .ok (.aload_n 1, 1) := by decide +kernel
theorem dX6_passYear_26 : decode cX6_passYear 26 = .ok (.iload_n 2, 1) := by decide +kernel
theorem dX6_passYear_27 : decode cX6_passYear 27 = .ok (.invokevirtual 53, 3) := by decide +kernel
theorem dX6_passYear_30 : decode cX6_passYear 30 = .ok (.aload_n 1, 1) := by decide +kernel
theorem dX6_passYear_31 : decode cX6_passYear 31 = .ok (.getfield 56, 3) := by decide +kernel
theorem dX6_passYear_34 : decode cX6_passYear 34 = .ok (.aload_n 1, 1) := by decide +kernel
theorem dX6_passYear_35 : decode cX6_passYear 35 = .ok (.iconst 3, 1) := by decide +kernel
theorem dX6_passYear_36 : decode cX6_passYear 36 = .ok (.invokevirtual 60, 3) := by decide +kernel
theorem dX6_passYear_39 : decode cX6_passYear 39 = .ok (.invokevirtual 64, 3) := by decide +kernel
theorem dX6_passYear_42 : decode cX6_passYear 42 = .ok (.aload_n 1, 1) := by decide +kernel
theorem dX6_passYear_43 : decode cX6_passYear 43 = .ok (.dup, 1) := by decide +kernel
theorem dX6_passYear_44 : decode cX6_passYear 44 = .ok (.getfield 33, 3) := by decide +kernel
theorem dX6_passYear_47 : decode cX6_passYear 47 = .ok (.iconst 1, 1) := by decide +kernel
theorem dX6_passYear_48 : decode cX6_passYear 48 = .ok (.iadd, 1) := by decide +kernel
theorem dX6_passYear_49 : decode cX6_passYear 49 = .ok (.putfield 33, 3) := by decide +kernel
theorem dX6_passYear_52 : decode cX6_passYear 52 = .ok (.return_, 1) := by decide +kernel
theorem dX6_wearBanks_0 : decode cX6_wearBanks 0 = .ok (.aload_n 1, 1) := by decide +kernel
theorem dX6_wearBanks_1 : decode cX6_wearBanks 1 = .ok (.iconst 0, 1) := by decide +kernel
theorem dX6_wearBanks_2 : decode cX6_wearBanks 2 = .ok (.invokevirtual 60, 3) := by decide +kernel
theorem dX6_wearBanks_5 : decode cX6_wearBanks 5 = .ok (.iload_n 2, 1) := by decide +kernel
theorem dX6_wearBanks_6 : decode cX6_wearBanks 6 = .ok (.ifCond .eq 7, 3) := by decide +kernel
theorem dX6_wearBanks_9 : decode cX6_wearBanks 9 = .ok (.iconst 2, 1) := by decide +kernel
theorem dX6_wearBanks_10 : decode cX6_wearBanks 10 = .ok (.goto 4, 3) := by decide +kernel
theorem dX6_wearBanks_13 : decode cX6_wearBanks 13 = .ok (.iconst 1, 1) := by decide +kernel
theorem dX6_wearBanks_14 : decode cX6_wearBanks 14 = .ok (.imul, 1) := by decide +kernel
theorem dX6_wearBanks_15 : decode cX6_wearBanks 15 = .ok (.istore_n 3, 1) := by decide +kernel
theorem dX6_wearBanks_16 : decode cX6_wearBanks 16 = .ok (.iconst 0, 1) := by decide +kernel
theorem dX6_wearBanks_17 : decode cX6_wearBanks 17 = .ok (.istore 4, 2) := by decide +kernel
theorem dX6_wearBanks_19 : decode cX6_wearBanks 19 = .ok (.iconst 0, 1) := by decide +kernel
theorem dX6_wearBanks_20 : decode cX6_wearBanks 20 = .ok (.istore 5, 2) := by decide +kernel
theorem dX6_wearBanks_22 : decode cX6_wearBanks 22 = .ok (.iload 5, 2) := by decide +kernel
theorem dX6_wearBanks_24 : decode cX6_wearBanks 24 = .ok (.sipush 150, 3) := by decide +kernel
theorem dX6_wearBanks_27 : decode cX6_wearBanks 27 = .ok (.if_icmp .ge 56, 3) := by decide +kernel
theorem dX6_wearBanks_30 : decode cX6_wearBanks 30 = .ok (.aload_n 0, 1) := by decide +kernel
theorem dX6_wearBanks_31 : decode cX6_wearBanks 31 = .ok (.getfield 12, 3) := by decide +kernel
theorem dX6_wearBanks_34 : decode cX6_wearBanks 34 = .ok (.aload_n 1, 1) := by decide +kernel
theorem dX6_wearBanks_35 : decode cX6_wearBanks 35 = .ok (.getfield 70, 3) := by decide +kernel
theorem dX6_wearBanks_38 : decode cX6_wearBanks 38 = .ok (.iload 4, 2) := by decide +kernel
theorem dX6_wearBanks_40 : decode cX6_wearBanks 40 = .ok (.invokevirtual 74, 3) := by decide +kernel
theorem dX6_wearBanks_43 : decode cX6_wearBanks 43 = .ok (.ifCond .eq 40, 3) := by decide +kernel
theorem dX6_wearBanks_46 : decode cX6_wearBanks 46 = .ok (.aload_n 1, 1) := by decide +kernel
theorem dX6_wearBanks_47 : decode cX6_wearBanks 47 = .ok (.aload_n 0, 1) := by decide +kernel
theorem dX6_wearBanks_48 : decode cX6_wearBanks 48 = .ok (.getfield 12, 3) := by decide +kernel
theorem dX6_wearBanks_51 : decode cX6_wearBanks 51 = .ok (.invokevirtual 78, 3) := by decide +kernel
theorem dX6_wearBanks_54 : decode cX6_wearBanks 54 = .ok (.ifCond .ne 12, 3) := by decide +kernel
theorem dX6_wearBanks_57 : decode cX6_wearBanks 57 = .ok (.aload_n 1, 1) := by decide +kernel
theorem dX6_wearBanks_58 : decode cX6_wearBanks 58 = .ok (.aload_n 0, 1) := by decide +kernel
theorem dX6_wearBanks_59 : decode cX6_wearBanks 59 = .ok (.getfield 12, 3) := by decide +kernel
theorem dX6_wearBanks_62 : decode cX6_wearBanks 62 = .ok (.iload_n 3, 1) := by decide +kernel
theorem dX6_wearBanks_63 : decode cX6_wearBanks 63 = .ok (.invokevirtual 82, 3) := by decide +kernel
theorem dX6_wearBanks_66 : decode cX6_wearBanks 66 = .ok (.aload_n 0, 1) := by decide +kernel
theorem dX6_wearBanks_67 : decode cX6_wearBanks 67 = .ok (.getfield 12, 3) := by decide +kernel
theorem dX6_wearBanks_70 : decode cX6_wearBanks 70 = .ok (.getfield 86, 3) := by decide +kernel
theorem dX6_wearBanks_73 : decode cX6_wearBanks 73 = .ok (.iconst 1, 1) := by decide +kernel
theorem dX6_wearBanks_74 : decode cX6_wearBanks 74 = .ok (.iadd, 1) := by decide +kernel
theorem dX6_wearBanks_75 : decode cX6_wearBanks 75 = .ok (.istore 4, 2) := by decide +kernel
theorem dX6_wearBanks_77 : decode cX6_wearBanks 77 = .ok (.iinc 5 1, 3) := by decide +kernel
theorem dX6_wearBanks_80 : decode cX6_wearBanks 80 = .ok (.goto (-58), 3) := by decide +kernel
theorem dX6_wearBanks_83 : decode cX6_wearBanks 83 = .ok (.return_, 1) := by decide +kernel
theorem dX6_growBends_0 : decode cX6_growBends 0 = .ok (.iconst 0, 1) := by decide +kernel
theorem dX6_growBends_1 : decode cX6_growBends 1 = .ok (.istore_n 2, 1) := by decide +kernel
theorem dX6_growBends_2 : decode cX6_growBends 2 = .ok (.iconst 0, 1) := by decide +kernel
theorem dX6_growBends_3 : decode cX6_growBends 3 = .ok (.istore_n 3, 1) := by decide +kernel
theorem dX6_growBends_4 : decode cX6_growBends 4 = .ok (.iload_n 3, 1) := by decide +kernel
theorem dX6_growBends_5 : decode cX6_growBends 5 = .ok (.sipush 150, 3) := by decide +kernel
theorem dX6_growBends_8 : decode cX6_growBends 8 = .ok (.if_icmp .ge 71, 3) := by decide +kernel
theorem dX6_growBends_11 : decode cX6_growBends 11 = .ok (.aload_n 0, 1) := by decide +kernel
theorem dX6_growBends_12 : decode cX6_growBends 12 = .ok (.getfield 12, 3) := by decide +kernel
theorem dX6_growBends_15 : decode cX6_growBends 15 = .ok (.aload_n 1, 1) := by decide +kernel
theorem dX6_growBends_16 : decode cX6_growBends 16 = .ok (.getfield 70, 3) := by decide +kernel
theorem dX6_growBends_19 : decode cX6_growBends 19 = .ok (.iload_n 2, 1) := by decide +kernel
theorem dX6_growBends_20 : decode cX6_growBends 20 = .ok (.invokevirtual 74, 3) := by decide +kernel
theorem dX6_growBends_23 : decode cX6_growBends 23 = .ok (.ifCond .eq 56, 3) := by decide +kernel
theorem dX6_growBends_26 : decode cX6_growBends 26 = .ok (.aload_n 1, 1) := by decide +kernel
theorem dX6_growBends_27 : decode cX6_growBends 27 = .ok (.aload_n 0, 1) := by decide +kernel
theorem dX6_growBends_28 : decode cX6_growBends 28 = .ok (.getfield 12, 3) := by decide +kernel
theorem dX6_growBends_31 : decode cX6_growBends 31 = .ok (.invokevirtual 89, 3) := by decide +kernel
theorem dX6_growBends_34 : decode cX6_growBends 34 = .ok (.ifCond .eq 29, 3) := by decide +kernel
theorem dX6_growBends_37 : decode cX6_growBends 37 = .ok (.aload_n 0, 1) := by decide +kernel
theorem dX6_growBends_38 : decode cX6_growBends 38 = .ok (.aload_n 1, 1) := by decide +kernel
theorem dX6_growBends_39 : decode cX6_growBends 39 = .ok (.invokevirtual 92, 3) := by decide +kernel
theorem dX6_growBends_42 : decode cX6_growBends 42 = .ok (.aload_n 1, 1) := by decide +kernel
theorem dX6_growBends_43 : decode cX6_growBends 43 = .ok (.aload_n 0, 1) := by decide +kernel
theorem dX6_growBends_44 : decode cX6_growBends 44 = .ok (.getfield 12, 3) := by decide +kernel
theorem dX6_growBends_47 : decode cX6_growBends 47 = .ok (.invokevirtual 95, 3) := by decide +kernel
theorem dX6_growBends_50 : decode cX6_growBends 50 = .ok (.aload_n 0, 1) := by decide +kernel
theorem dX6_growBends_51 : decode cX6_growBends 51 = .ok (.getfield 12, 3) := by decide +kernel
theorem dX6_growBends_54 : decode cX6_growBends 54 = .ok (.getfield 99, 3) := by decide +kernel
theorem dX6_growBends_57 : decode cX6_growBends 57 = .ok (.iconst 2, 1) := by decide +kernel
theorem dX6_growBends_58 : decode cX6_growBends 58 = .ok (.iadd, 1) := by decide +kernel
theorem dX6_growBends_59 : decode cX6_growBends 59 = .ok (.istore_n 2, 1) := by decide +kernel
theorem dX6_growBends_60 : decode cX6_growBends 60 = .ok (.goto 13, 3) := by decide +kernel
theorem dX6_growBends_63 : decode cX6_growBends 63 = .ok (.aload_n 0, 1) := by decide +kernel
theorem dX6_growBends_64 : decode cX6_growBends 64 = .ok (.getfield 12, 3) := by decide +kernel
theorem dX6_growBends_67 : decode cX6_growBends 67 = .ok (.getfield 86, 3) := by decide +kernel
theorem dX6_growBends_70 : decode cX6_growBends 70 = .ok (.iconst 1, 1) := by decide +kernel
theorem dX6_growBends_71 : decode cX6_growBends 71 = .ok (.iadd, 1) := by decide +kernel
theorem dX6_growBends_72 : decode cX6_growBends 72 = .ok (.istore_n 2, 1) := by decide +kernel
theorem dX6_growBends_73 : decode cX6_growBends 73 = .ok (.iinc 3 1, 3) := by decide +kernel
theorem dX6_growBends_76 : decode cX6_growBends 76 = .ok (.goto (-72), 3) := by decide +kernel
theorem dX6_growBends_79 : decode cX6_growBends 79 = .ok (.return_, 1) := by decide +kernel
theorem dX6_noteTaken_0 : decode cX6_noteTaken 0 = .ok (.aload_n 0, 1) := by decide +kernel
theorem dX6_noteTaken_1 : decode cX6_noteTaken 1 = .ok (.getfield 12, 3) := by decide +kernel
theorem dX6_noteTaken_4 : decode cX6_noteTaken 4 = .ok (.getfield 86, 3) := by decide +kernel
theorem dX6_noteTaken_7 : decode cX6_noteTaken 7 = .ok (.istore_n 2, 1) := by decide +kernel
theorem dX6_noteTaken_8 : decode cX6_noteTaken 8 = .ok (.iload_n 2, 1) := by decide +kernel
theorem dX6_noteTaken_9 : decode cX6_noteTaken 9 = .ok (.aload_n 0, 1) := by decide +kernel
theorem dX6_noteTaken_10 : decode cX6_noteTaken 10 = .ok (.getfield 12, 3) := by decide +kernel
theorem dX6_noteTaken_13 : decode cX6_noteTaken 13 = .ok (.getfield 99, 3) := by decide +kernel
theorem dX6_noteTaken_16 : decode cX6_noteTaken 16 = .ok (.if_icmp .gt 30, 3) := by decide +kernel
theorem dX6_noteTaken_19 : decode cX6_noteTaken 19 = .ok (.aload_n 1, 1) := by decide +kernel
theorem dX6_noteTaken_20 : decode cX6_noteTaken 20 = .ok (.aload_n 0, 1) := by decide +kernel
theorem dX6_noteTaken_21 : decode cX6_noteTaken 21 = .ok (.getfield 12, 3) := by decide +kernel
theorem dX6_noteTaken_24 : decode cX6_noteTaken 24 = .ok (.iload_n 2, 1) := by decide +kernel
theorem dX6_noteTaken_25 : decode cX6_noteTaken 25 = .ok (.invokevirtual 102, 3) := by decide +kernel
theorem dX6_noteTaken_28 : decode cX6_noteTaken 28 = .ok (.aload_n 0, 1) := by decide +kernel
theorem dX6_noteTaken_29 : decode cX6_noteTaken 29 = .ok (.getfield 25, 3) := by decide +kernel
theorem dX6_noteTaken_32 : decode cX6_noteTaken 32 = .ok (.if_icmp .ne 8, 3) := by decide +kernel
theorem dX6_noteTaken_35 : decode cX6_noteTaken 35 = .ok (.aload_n 0, 1) := by decide +kernel
theorem dX6_noteTaken_36 : decode cX6_noteTaken 36 = .ok (.iconst 1, 1) := by decide +kernel
theorem dX6_noteTaken_37 : decode cX6_noteTaken 37 = .ok (.putfield 29, 3) := by decide +kernel
theorem dX6_noteTaken_40 : decode cX6_noteTaken 40 = .ok (.iinc 2 1, 3) := by decide +kernel
theorem dX6_noteTaken_43 : decode cX6_noteTaken 43 = .ok (.goto (-35), 3) := by decide +kernel
theorem dX6_noteTaken_46 : decode cX6_noteTaken 46 = .ok (.return_, 1) := by decide +kernel
theorem dX6_cutNecks_0 : decode cX6_cutNecks 0 = .ok (.iload_n 2, 1) := by decide +kernel
theorem dX6_cutNecks_1 : decode cX6_cutNecks 1 = .ok (.ifCond .eq 7, 3) := by decide +kernel
theorem dX6_cutNecks_4 : decode cX6_cutNecks 4 = .ok (.iconst 0, 1) := by decide +kernel
theorem dX6_cutNecks_5 : decode cX6_cutNecks 5 = .ok (.goto 8, 3) := by decide +kernel
theorem dX6_cutNecks_8 : decode cX6_cutNecks 8 = .ok (.aload_n 1, 1) := by decide +kernel
theorem dX6_cutNecks_9 : decode cX6_cutNecks 9 = .ok (.iconst 2, 1) := by decide +kernel
theorem dX6_cutNecks_10 : decode cX6_cutNecks 10 = .ok (.invokevirtual 60, 3) := by decide +kernel
theorem dX6_cutNecks_13 : decode cX6_cutNecks 13 = .ok (.istore_n 3, 1) := by decide +kernel
theorem dX6_cutNecks_14 : decode cX6_cutNecks 14 = .ok (.aload_n 1, 1) := by decide +kernel
theorem dX6_cutNecks_15 : decode cX6_cutNecks 15 = .ok (.getfield 70, 3) := by decide +kernel
theorem dX6_cutNecks_18 : decode cX6_cutNecks 18 = .ok (.invokevirtual 106, 3) := by decide +kernel
theorem dX6_cutNecks_21 : decode cX6_cutNecks 21 = .ok (.istore 4, 2) := by decide +kernel
theorem dX6_cutNecks_23 : decode cX6_cutNecks 23 = .ok (.iconst 0, 1) := by decide +kernel
theorem dX6_cutNecks_24 : decode cX6_cutNecks 24 = .ok (.istore 5, 2) := by decide +kernel
theorem dX6_cutNecks_26 : decode cX6_cutNecks 26 = .ok (.iload 5, 2) := by decide +kernel
theorem dX6_cutNecks_28 : decode cX6_cutNecks 28 = .ok (.sipush 150, 3) := by decide +kernel
theorem dX6_cutNecks_31 : decode cX6_cutNecks 31 = .ok (.if_icmp .ge 39, 3) := by decide +kernel
theorem dX6_cutNecks_34 : decode cX6_cutNecks 34 = .ok (.aload_n 0, 1) := by decide +kernel
theorem dX6_cutNecks_35 : decode cX6_cutNecks 35 = .ok (.getfield 21, 3) := by decide +kernel
theorem dX6_cutNecks_38 : decode cX6_cutNecks 38 = .ok (.aload_n 1, 1) := by decide +kernel
theorem dX6_cutNecks_39 : decode cX6_cutNecks 39 = .ok (.iload_n 3, 1) := by decide +kernel
theorem dX6_cutNecks_40 : decode cX6_cutNecks 40 = .ok (.invokevirtual 112, 3) := by decide +kernel
theorem dX6_cutNecks_43 : decode cX6_cutNecks 43 = .ok (.ifCond .eq 27, 3) := by decide +kernel
theorem dX6_cutNecks_46 : decode cX6_cutNecks 46 = .ok (.aload_n 1, 1) := by decide +kernel
theorem dX6_cutNecks_47 : decode cX6_cutNecks 47 = .ok (.aload_n 0, 1) := by decide +kernel
theorem dX6_cutNecks_48 : decode cX6_cutNecks 48 = .ok (.getfield 21, 3) := by decide +kernel
theorem dX6_cutNecks_51 : decode cX6_cutNecks 51 = .ok (.getfield 116, 3) := by decide +kernel
theorem dX6_cutNecks_54 : decode cX6_cutNecks 54 = .ok (.aload_n 0, 1) := by decide +kernel
theorem dX6_cutNecks_55 : decode cX6_cutNecks 55 = .ok (.getfield 21, 3) := by decide +kernel
theorem dX6_cutNecks_58 : decode cX6_cutNecks 58 = .ok (.getfield 119, 3) := by decide +kernel
theorem dX6_cutNecks_61 : decode cX6_cutNecks 61 = .ok (.invokevirtual 122, 3) := by decide +kernel
theorem dX6_cutNecks_64 : decode cX6_cutNecks 64 = .ok (.iinc 5 1, 3) := by decide +kernel
theorem dX6_cutNecks_67 : decode cX6_cutNecks 67 = .ok (.goto (-41), 3) := by decide +kernel
theorem dX6_cutNecks_70 : decode cX6_cutNecks 70 = .ok (.aload_n 0, 1) := by decide +kernel
theorem dX6_cutNecks_71 : decode cX6_cutNecks 71 = .ok (.iload 4, 2) := by decide +kernel
theorem dX6_cutNecks_73 : decode cX6_cutNecks 73 = .ok (.aload_n 1, 1) := by decide +kernel
theorem dX6_cutNecks_74 : decode cX6_cutNecks 74 = .ok (.getfield 70, 3) := by decide +kernel
theorem dX6_cutNecks_77 : decode cX6_cutNecks 77 = .ok (.invokevirtual 106, 3) := by decide +kernel
theorem dX6_cutNecks_80 : decode cX6_cutNecks 80 = .ok (.isub, 1) := by decide +kernel
theorem dX6_cutNecks_81 : decode cX6_cutNecks 81 = .ok (.putfield 126, 3) := by decide +kernel
theorem dX6_cutNecks_84 : decode cX6_cutNecks 84 = .ok (.return_, 1) := by decide +kernel
theorem dX7_init_0 : decode cX7_init 0 = .ok (.aload_n 0, 1) := by decide +kernel
theorem dX7_init_1 : decode cX7_init 1 = .ok (.invokespecial 3, 3) := by decide +kernel
theorem dX7_init_4 : decode cX7_init 4 = .ok (.aload_n 0, 1) := by decide +kernel
theorem dX7_init_5 : decode cX7_init 5 = .ok (.getstatic 9, 3) := by decide +kernel
theorem dX7_init_8 : decode cX7_init 8 = .ok (.arraylength, 1) := by decide +kernel
theorem dX7_init_9 : decode cX7_init 9 = .ok (.newarray .int, 2) := by decide +kernel
theorem dX7_init_11 : decode cX7_init 11 = .ok (.putfield 13, 3) := by decide +kernel
theorem dX7_init_14 : decode cX7_init 14 = .ok (.aload_n 0, 1) := by decide +kernel
theorem dX7_init_15 : decode cX7_init 15 = .ok (.new 18, 3) := by decide +kernel
theorem dX7_init_18 : decode cX7_init 18 = .ok (.dup, 1) := by decide +kernel
theorem dX7_init_19 : decode cX7_init 19 = .ok (.invokespecial 20, 3) := by decide +kernel
theorem dX7_init_22 : decode cX7_init 22 = .ok (.putfield 21, 3) := by decide +kernel
theorem dX7_init_25 : decode cX7_init 25 = .ok (.aload_n 0, 1) := by decide +kernel
theorem dX7_init_26 : decode cX7_init 26 = .ok (.new 25, 3) := by decide +kernel
theorem dX7_init_29 : decode cX7_init 29 = .ok (.dup, 1) := by decide +kernel
theorem dX7_init_30 : decode cX7_init 30 = .ok (.invokespecial 27, 3) := by decide +kernel
theorem dX7_init_33 : decode cX7_init 33 = .ok (.putfield 28, 3) := by decide +kernel
theorem dX7_init_36 : decode cX7_init 36 = .ok (.aload_n 0, 1) := by decide +kernel
theorem dX7_init_37 : decode cX7_init 37 = .ok (.sipush 240, 3) := by decide +kernel
theorem dX7_init_40 : decode cX7_init 40 = .ok (.newarray .int, 2) := by decide +kernel
theorem dX7_init_42 : decode cX7_init 42 = .ok (.putfield 32, 3) := by decide +kernel
theorem dX7_init_45 : decode cX7_init 45 = .ok (.aload_n 0, 1) := by decide +kernel
theorem dX7_init_46 : decode cX7_init 46 = .ok (.sipush 240, 3) := by decide +kernel
theorem dX7_init_49 : decode cX7_init 49 = .ok (.newarray .int, 2) := by decide +kernel
theorem dX7_init_51 : decode cX7_init 51 = .ok (.putfield 35, 3) := by decide +kernel
theorem dX7_init_54 : decode cX7_init 54 = .ok (.aload_n 0, 1) := by decide +kernel
theorem dX7_init_55 : decode cX7_init 55 = .ok (.sipush 480, 3) := by decide +kernel
theorem dX7_init_58 : decode cX7_init 58 = .ok (.newarray .int, 2) := by decide +kernel
theorem dX7_init_60 : decode cX7_init 60 = .ok (.putfield 38, 3) := by decide +kernel
theorem dX7_init_63 : decode cX7_init 63 = .ok (.aload_n 0, 1) := by decide +kernel
theorem dX7_init_64 : decode cX7_init 64 = .ok (.bipush 8, 2) := by decide +kernel
theorem dX7_init_66 : decode cX7_init 66 = .ok (.newarray .int, 2) := by decide +kernel
theorem dX7_init_68 : decode cX7_init 68 = .ok (.putfield 41, 3) := by decide +kernel
theorem dX7_init_71 : decode cX7_init 71 = .ok (.getstatic 9, 3) := by decide +kernel
theorem dX7_init_74 : decode cX7_init 74 = .ok (.iconst 0, 1) := by decide +kernel
theorem dX7_init_75 : decode cX7_init 75 = .ok (.aload_n 0, 1) := by decide +kernel
theorem dX7_init_76 : decode cX7_init 76 = .ok (.getfield 13, 3) := by decide +kernel
theorem dX7_init_79 : decode cX7_init 79 = .ok (.iconst 0, 1) := by decide +kernel
theorem dX7_init_80 : decode cX7_init 80 = .ok (.aload_n 0, 1) := by decide +kernel
theorem dX7_init_81 : decode cX7_init 81 = .ok (.getfield 13, 3) := by decide +kernel
theorem dX7_init_84 : decode cX7_init 84 = .ok (.arraylength, 1) := by decide +kernel
theorem dX7_init_85 : decode cX7_init 85 = .ok (.invokestatic 44, 3) := by decide +kernel
theorem dX7_init_88 : decode cX7_init 88 = .ok (.iconst 0, 1) := by decide +kernel
theorem dX7_init_89 : decode cX7_init 89 = .ok (.istore_n 1, 1) := by decide +kernel
theorem dX7_init_90 : decode cX7_init 90 = .ok (.iload_n 1, 1) := by decide +kernel
theorem dX7_init_91 : decode cX7_init 91 = .ok (.bipush 20, 2) := by decide +kernel
theorem dX7_init_93 : decode cX7_init 93 = .ok (.if_icmp .ge 23, 3) := by decide +kernel
theorem dX7_init_96 : decode cX7_init 96 = .ok (.aload_n 0, 1) := by decide +kernel
theorem dX7_init_97 : decode cX7_init 97 = .ok (.getfield 21, 3) := by decide +kernel
theorem dX7_init_100 : decode cX7_init 100 = .ok (.iload_n 1, 1) := by decide +kernel
theorem dX7_init_101 : decode cX7_init 101 = .ok (.bipush 6, 2) := by decide +kernel
theorem dX7_init_103 : decode cX7_init 103 = .ok (.invokestatic 50, 3) := by decide +kernel
theorem dX7_init_106 : decode cX7_init 106 = .ok (.invokevirtual 54, 3) := by decide +kernel
theorem dX7_init_109 : decode cX7_init 109 = .ok (.pop, 1) := by decide +kernel
theorem dX7_init_110 : decode cX7_init 110 = .ok (.iinc 1 1, 3) := by decide +kernel
theorem dX7_init_113 : decode cX7_init 113 = .ok (.goto (-23), 3) := by decide +kernel
theorem dX7_init_116 : decode cX7_init 116 = .ok (.return_, 1) := by decide +kernel
theorem dX7_copyFrom_0 : decode cX7_copyFrom 0 = .ok (.aload_n 1, 1) := by decide +kernel
theorem dX7_copyFrom_1 : decode cX7_copyFrom 1 = .ok (.getfield 13, 3) := by decide +kernel
theorem dX7_copyFrom_4 : decode cX7_copyFrom 4 = .ok (.iconst 0, 1) := by decide +kernel
theorem dX7_copyFrom_5 : decode cX7_copyFrom 5 = .ok (.aload_n 0, 1) := by decide +kernel
theorem dX7_copyFrom_6 : decode cX7_copyFrom 6 = .ok (.getfield 13, 3) := by decide +kernel
theorem dX7_copyFrom_9 : decode cX7_copyFrom 9 = .ok (.iconst 0, 1) := by decide +kernel
theorem dX7_copyFrom_10 : decode cX7_copyFrom 10 = .ok (.aload_n 0, 1) := by decide +kernel
theorem dX7_copyFrom_11 : decode cX7_copyFrom 11 = .ok (.getfield 13, 3) := by decide +kernel
theorem dX7_copyFrom_14 : decode cX7_copyFrom 14 = .ok (.arraylength, 1) := by decide +kernel
theorem dX7_copyFrom_15 : decode cX7_copyFrom 15 = .ok (.invokestatic 44, 3) := by decide +kernel
theorem dX7_copyFrom_18 : decode cX7_copyFrom 18 = .ok (.aload_n 0, 1) := by decide +kernel
theorem dX7_copyFrom_19 : decode cX7_copyFrom 19 = .ok (.getfield 21, 3) := by decide +kernel
theorem dX7_copyFrom_22 : decode cX7_copyFrom 22 = .ok (.aload_n 1, 1) := by decide +kernel
theorem dX7_copyFrom_23 : decode cX7_copyFrom 23 = .ok (.getfield 21, 3) := by decide +kernel
theorem dX7_copyFrom_26 : decode cX7_copyFrom 26 = .ok (.invokevirtual 58, 3) := by decide +kernel
theorem dX7_copyFrom_29 : decode cX7_copyFrom 29 = .ok (.aload_n 0, 1) := by decide +kernel
theorem dX7_copyFrom_30 : decode cX7_copyFrom 30 = .ok (.getfield 28, 3) := by decide +kernel
theorem dX7_copyFrom_33 : decode cX7_copyFrom 33 = .ok (.aload_n 1, 1) := by decide +kernel
theorem dX7_copyFrom_34 : decode cX7_copyFrom 34 = .ok (.getfield 28, 3) := by decide +kernel
theorem dX7_copyFrom_37 : decode cX7_copyFrom 37 = .ok (.invokevirtual 62, 3) := by decide +kernel
theorem dX7_copyFrom_40 : decode cX7_copyFrom 40 = .ok (.aload_n 1, 1) := by decide +kernel
theorem dX7_copyFrom_41 : decode cX7_copyFrom 41 = .ok (.getfield 32, 3) := by decide +kernel
theorem dX7_copyFrom_44 : decode cX7_copyFrom 44 = .ok (.iconst 0, 1) := by decide +kernel
theorem dX7_copyFrom_45 : decode cX7_copyFrom 45 = .ok (.aload_n 0, 1) := by decide +kernel
theorem dX7_copyFrom_46 : decode cX7_copyFrom 46 = .ok (.getfield 32, 3) := by decide +kernel
theorem dX7_copyFrom_49 : decode cX7_copyFrom 49 = .ok (.iconst 0, 1) := by decide +kernel
theorem dX7_copyFrom_50 : decode cX7_copyFrom 50 = .ok (.sipush 240, 3) := by decide +kernel
theorem dX7_copyFrom_53 : decode cX7_copyFrom 53 = .ok (.invokestatic 44, 3) := by decide +kernel
theorem dX7_copyFrom_56 : decode cX7_copyFrom 56 = .ok (.aload_n 1, 1) := by decide +kernel
theorem dX7_copyFrom_57 : decode cX7_copyFrom 57 = .ok (.getfield 35, 3) := by decide +kernel
theorem dX7_copyFrom_60 : decode cX7_copyFrom 60 = .ok (.iconst 0, 1) := by decide +kernel
theorem dX7_copyFrom_61 : decode cX7_copyFrom 61 = .ok (.aload_n 0, 1) := by decide +kernel
theorem dX7_copyFrom_62 : decode cX7_copyFrom 62 = .ok (.getfield 35, 3) := by decide +kernel
theorem dX7_copyFrom_65 : decode cX7_copyFrom 65 = .ok (.iconst 0, 1) := by decide +kernel
theorem dX7_copyFrom_66 : decode cX7_copyFrom 66 = .ok (.sipush 240, 3) := by decide +kernel
theorem dX7_copyFrom_69 : decode cX7_copyFrom 69 = .ok (.invokestatic 44, 3) := by decide +kernel
theorem dX7_copyFrom_72 : decode cX7_copyFrom 72 = .ok (.aload_n 1, 1) := by decide +kernel
theorem dX7_copyFrom_73 : decode cX7_copyFrom 73 = .ok (.getfield 38, 3) := by decide +kernel
theorem dX7_copyFrom_76 : decode cX7_copyFrom 76 = .ok (.iconst 0, 1) := by decide +kernel
theorem dX7_copyFrom_77 : decode cX7_copyFrom 77 = .ok (.aload_n 0, 1) := by decide +kernel
theorem dX7_copyFrom_78 : decode cX7_copyFrom 78 = .ok (.getfield 38, 3) := by decide +kernel
theorem dX7_copyFrom_81 : decode cX7_copyFrom 81 = .ok (.iconst 0, 1) := by decide +kernel
theorem dX7_copyFrom_82 : decode cX7_copyFrom 82 = .ok (.sipush 480, 3) := by decide +kernel
theorem dX7_copyFrom_85 : decode cX7_copyFrom 85 = .ok (.invokestatic 44, 3) := by decide +kernel
theorem dX7_copyFrom_88 : decode cX7_copyFrom 88 = .ok (.aload_n 1, 1) := by decide +kernel
theorem dX7_copyFrom_89 : decode cX7_copyFrom 89 = .ok (.getfield 41, 3) := by decide +kernel
theorem dX7_copyFrom_92 : decode cX7_copyFrom 92 = .ok (.iconst 0, 1) := by decide +kernel
theorem dX7_copyFrom_93 : decode cX7_copyFrom 93 = .ok (.aload_n 0, 1) := by decide +kernel
theorem dX7_copyFrom_94 : decode cX7_copyFrom 94 = .ok (.getfield 41, 3) := by decide +kernel
theorem dX7_copyFrom_97 : decode cX7_copyFrom 97 = .ok (.iconst 0, 1) := by decide +kernel
theorem dX7_copyFrom_98 : decode cX7_copyFrom 98 = .ok (.bipush 8, 2) := by decide +kernel
theorem dX7_copyFrom_100 : decode cX7_copyFrom 100 = .ok (.invokestatic 44, 3) := by decide +kernel
theorem dX7_copyFrom_103 : decode cX7_copyFrom 103 = .ok (.aload_n 0, 1) := by decide +kernel
theorem dX7_copyFrom_104 : decode cX7_copyFrom 104 = .ok (.aload_n 1, 1) := by decide +kernel
theorem dX7_copyFrom_105 : decode cX7_copyFrom 105 = .ok (.getfield 65, 3) := by decide +kernel
theorem dX7_copyFrom_108 : decode cX7_copyFrom 108 = .ok (.putfield 65, 3) := by decide +kernel
theorem dX7_copyFrom_111 : decode cX7_copyFrom 111 = .ok (.aload_n 0, 1) := by decide +kernel
theorem dX7_copyFrom_112 : decode cX7_copyFrom 112 = .ok (.aload_n 1, 1) := by decide +kernel
theorem dX7_copyFrom_113 : decode cX7_copyFrom 113 = .ok (.getfield 69, 3) := by decide +kernel
theorem dX7_copyFrom_116 : decode cX7_copyFrom 116 = .ok (.putfield 69, 3) := by decide +kernel
theorem dX7_copyFrom_119 : decode cX7_copyFrom 119 = .ok (.aload_n 0, 1) := by decide +kernel
theorem dX7_copyFrom_120 : decode cX7_copyFrom 120 = .ok (.aload_n 1, 1) := by decide +kernel
theorem dX7_copyFrom_121 : decode cX7_copyFrom 121 = .ok (.getfield 72, 3) := by decide +kernel
theorem dX7_copyFrom_124 : decode cX7_copyFrom 124 = .ok (.putfield 72, 3) := by decide +kernel
theorem dX7_copyFrom_127 : decode cX7_copyFrom 127 = .ok (.aload_n 0, 1) := by decide +kernel
theorem dX7_copyFrom_128 : decode cX7_copyFrom 128 = .ok (.aload_n 1, 1) := by decide +kernel
theorem dX7_copyFrom_129 : decode cX7_copyFrom 129 = .ok (.getfield 75, 3) := by decide +kernel
theorem dX7_copyFrom_132 : decode cX7_copyFrom 132 = .ok (.putfield 75, 3) := by decide +kernel
theorem dX7_copyFrom_135 : decode cX7_copyFrom 135 = .ok (.return_, 1) := by decide +kernel
theorem dX7_clearAllButSettings_0 : decode cX7_clearAllButSettings 0 = .ok (.aload_n 0, 1) := by decide +kernel
theorem dX7_clearAllButSettings_1 : decode cX7_clearAllButSettings 1 = .ok (.getfield 21, 3) := by decide +kernel
theorem dX7_clearAllButSettings_4 : decode cX7_clearAllButSettings 4 = .ok (.invokevirtual 78, 3) := by decide +kernel
theorem dX7_clearAllButSettings_7 : decode cX7_clearAllButSettings 7 = .ok (.aload_n 0, 1) := by decide +kernel
theorem dX7_clearAllButSettings_8 : decode cX7_clearAllButSettings 8 = .ok (.getfield 28, 3) := by decide +kernel
theorem dX7_clearAllButSettings_11 : decode cX7_clearAllButSettings 11 = .ok (.invokevirtual 81, 3) := by decide +kernel
theorem dX7_clearAllButSettings_14 : decode cX7_clearAllButSettings 14 = .ok (.aload_n 0, 1) := by decide +kernel
theorem dX7_clearAllButSettings_15 : decode cX7_clearAllButSettings 15 = .ok (.getfield 32, 3) := by decide +kernel
theorem dX7_clearAllButSettings_18 : decode cX7_clearAllButSettings 18 = .ok (.iconst 0, 1) := by decide +kernel
theorem dX7_clearAllButSettings_19 : decode cX7_clearAllButSettings 19 = .ok (.invokestatic 82, 3) := by decide +kernel
theorem dX7_clearAllButSettings_22 : decode cX7_clearAllButSettings 22 = .ok (.aload_n 0, 1) := by decide +kernel
theorem dX7_clearAllButSettings_23 : decode cX7_clearAllButSettings 23 = .ok (.getfield 35, 3) := by decide +kernel
theorem dX7_clearAllButSettings_26 : decode cX7_clearAllButSettings 26 = .ok (.iconst 0, 1) := by decide +kernel
theorem dX7_clearAllButSettings_27 : decode cX7_clearAllButSettings 27 = .ok (.invokestatic 82, 3) := by decide +kernel
theorem dX7_clearAllButSettings_30 : decode cX7_clearAllButSettings 30 = .ok (.aload_n 0, 1) := by decide +kernel
theorem dX7_clearAllButSettings_31 : decode cX7_clearAllButSettings 31 = .ok (.getfield 38, 3) := by decide +kernel
theorem dX7_clearAllButSettings_34 : decode cX7_clearAllButSettings 34 = .ok (.iconst 0, 1) := by decide +kernel
theorem dX7_clearAllButSettings_35 : decode cX7_clearAllButSettings 35 = .ok (.invokestatic 82, 3) := by decide +kernel
theorem dX7_clearAllButSettings_38 : decode cX7_clearAllButSettings 38 = .ok (.aload_n 0, 1) := by decide +kernel
theorem dX7_clearAllButSettings_39 : decode cX7_clearAllButSettings 39 = .ok (.iconst 0, 1) := by decide +kernel
theorem dX7_clearAllButSettings_40 : decode cX7_clearAllButSettings 40 = .ok (.putfield 65, 3) := by decide +kernel
theorem dX7_clearAllButSettings_43 : decode cX7_clearAllButSettings 43 = .ok (.aload_n 0, 1) := by decide +kernel
theorem dX7_clearAllButSettings_44 : decode cX7_clearAllButSettings 44 = .ok (.iconst 0, 1) := by decide +kernel
theorem dX7_clearAllButSettings_45 : decode cX7_clearAllButSettings 45 = .ok (.putfield 69, 3) := by decide +kernel
theorem dX7_clearAllButSettings_48 : decode cX7_clearAllButSettings 48 = .ok (.aload_n 0, 1) := by decide +kernel
theorem dX7_clearAllButSettings_49 : decode cX7_clearAllButSettings 49 = .ok (.iconst 0, 1) := by decide +kernel
theorem dX7_clearAllButSettings_50 : decode cX7_clearAllButSettings 50 = .ok (.putfield 72, 3) := by decide +kernel
theorem dX7_clearAllButSettings_53 : decode cX7_clearAllButSettings 53 = .ok (.aload_n 0, 1) := by decide +kernel
theorem dX7_clearAllButSettings_54 : decode cX7_clearAllButSettings 54 = .ok (.iconst 0, 1) := by decide +kernel
theorem dX7_clearAllButSettings_55 : decode cX7_clearAllButSettings 55 = .ok (.putfield 75, 3) := by decide +kernel
theorem dX7_clearAllButSettings_58 : decode cX7_clearAllButSettings 58 = .ok (.return_, 1) := by decide +kernel
theorem dX7_setting_0 : decode cX7_setting 0 = .ok (.iload_n 1, 1) := by decide +kernel
theorem dX7_setting_1 : decode cX7_setting 1 = .ok (.ifCond .lt 21, 3) := by decide +kernel
theorem dX7_setting_4 : decode cX7_setting 4 = .ok (.iload_n 1, 1) := by decide +kernel
theorem dX7_setting_5 : decode cX7_setting 5 = .ok (.aload_n 0, 1) := by decide +kernel
theorem dX7_setting_6 : decode cX7_setting 6 = .ok (.getfield 13, 3) := by decide +kernel
theorem dX7_setting_9 : decode cX7_setting 9 = .ok (.arraylength, 1) := by decide +kernel
theorem dX7_setting_10 : decode cX7_setting 10 = .ok (.if_icmp .ge 12, 3) := by decide +kernel
theorem dX7_setting_13 : decode cX7_setting 13 = .ok (.aload_n 0, 1) := by decide +kernel
theorem dX7_setting_14 : decode cX7_setting 14 = .ok (.getfield 13, 3) := by decide +kernel
theorem dX7_setting_17 : decode cX7_setting 17 = .ok (.iload_n 1, 1) := by decide +kernel
theorem dX7_setting_18 : decode cX7_setting 18 = .ok (.iaload, 1) := by decide +kernel
theorem dX7_setting_19 : decode cX7_setting 19 = .ok (.goto 4, 3) := by decide +kernel
theorem dX7_setting_22 : decode cX7_setting 22 = .ok (.iconst 0, 1) := by decide +kernel
theorem dX7_setting_23 : decode cX7_setting 23 = .ok (.ireturn, 1) := by decide +kernel
theorem dX7_changeSetting_0 : decode cX7_changeSetting 0 = .ok (.iload_n 1, 1) := by decide +kernel
theorem dX7_changeSetting_1 : decode cX7_changeSetting 1 = .ok (.ifCond .lt 19, 3) := by decide +kernel
theorem dX7_changeSetting_4 : decode cX7_changeSetting 4 = .ok (.iload_n 1, 1) := by decide +kernel
theorem dX7_changeSetting_5 : decode cX7_changeSetting 5 = .ok (.aload_n 0, 1) := by decide +kernel
theorem dX7_changeSetting_6 : decode cX7_changeSetting 6 = .ok (.getfield 13, 3) := by decide +kernel
theorem dX7_changeSetting_9 : decode cX7_changeSetting 9 = .ok (.arraylength, 1) := by decide +kernel
theorem dX7_changeSetting_10 : decode cX7_changeSetting 10 = .ok (.if_icmp .ge 10, 3) := by decide +kernel
theorem dX7_changeSetting_13 : decode cX7_changeSetting 13 = .ok (.aload_n 0, 1) := by decide +kernel
theorem dX7_changeSetting_14 : decode cX7_changeSetting 14 = .ok (.getfield 13, 3) := by decide +kernel
theorem dX7_changeSetting_17 : decode cX7_changeSetting 17 = .ok (.iload_n 1, 1) := by decide +kernel
theorem dX7_changeSetting_18 : decode cX7_changeSetting 18 = .ok (.iload_n 2, 1) := by decide +kernel
theorem dX7_changeSetting_19 : decode cX7_changeSetting 19 = .ok (.iastore, 1) := by decide +kernel
theorem dX7_changeSetting_20 : decode cX7_changeSetting 20 = .ok (.return_, 1) := by decide +kernel
theorem dX7_isDike_0 : decode cX7_isDike 0 = .ok (.iload_n 1, 1) := by decide +kernel
theorem dX7_isDike_1 : decode cX7_isDike 1 = .ok (.invokestatic 88, 3) := by decide +kernel
theorem dX7_isDike_4 : decode cX7_isDike 4 = .ok (.ifCond .eq 17, 3) := by decide +kernel
theorem dX7_isDike_7 : decode cX7_isDike 7 = .ok (.aload_n 0, 1) := by decide +kernel
theorem dX7_isDike_8 : decode cX7_isDike 8 = .ok (.getfield 35, 3) := by decide +kernel
theorem dX7_isDike_11 : decode cX7_isDike 11 = .ok (.iload_n 1, 1) := by decide +kernel
theorem dX7_isDike_12 : decode cX7_isDike 12 = .ok (.iaload, 1) := by decide +kernel
theorem dX7_isDike_13 : decode cX7_isDike 13 = .ok (.iconst 1, 1) := by decide +kernel
theorem dX7_isDike_14 : decode cX7_isDike 14 = .ok (.if_icmp .ne 7, 3) := by decide +kernel
theorem dX7_isDike_17 : decode cX7_isDike 17 = .ok (.iconst 1, 1) := by decide +kernel
theorem dX7_isDike_18 : decode cX7_isDike 18 = .ok (.goto 4, 3) := by decide +kernel
theorem dX7_isDike_21 : decode cX7_isDike 21 = .ok (.iconst 0, 1) := by decide +kernel
theorem dX7_isDike_22 : decode cX7_isDike 22 = .ok (.ireturn, 1) := by decide +kernel
theorem dX7_changeDike_0 : decode cX7_changeDike 0 = .ok (.iload_n 1, 1) := by decide +kernel
theorem dX7_changeDike_1 : decode cX7_changeDike 1 = .ok (.invokestatic 88, 3) := by decide +kernel
theorem dX7_changeDike_4 : decode cX7_changeDike 4 = .ok (.ifCond .eq 13, 3) := by decide +kernel
theorem dX7_changeDike_7 : decode cX7_changeDike 7 = .ok (.aload_n 0, 1) := by decide +kernel
theorem dX7_changeDike_8 : decode cX7_changeDike 8 = .ok (.getfield 35, 3) := by decide +kernel
theorem dX7_changeDike_11 : decode cX7_changeDike 11 = .ok (.iload_n 1, 1) := by decide +kernel
theorem dX7_changeDike_12 : decode cX7_changeDike 12 = .ok (.iload_n 2, 1) := by decide +kernel
theorem dX7_changeDike_13 : decode cX7_changeDike 13 = .ok (.invokestatic 91, 3) := by decide +kernel
theorem dX7_changeDike_16 : decode cX7_changeDike 16 = .ok (.iastore, 1) := by decide +kernel
theorem dX7_changeDike_17 : decode cX7_changeDike 17 = .ok (.return_, 1) := by decide +kernel
theorem dX7_dikeCount_0 : decode cX7_dikeCount 0 = .ok (.iconst 0, 1) := by decide +kernel
theorem dX7_dikeCount_1 : decode cX7_dikeCount 1 = .ok (.istore_n 1, 1) := by decide +kernel
theorem dX7_dikeCount_2 : decode cX7_dikeCount 2 = .ok (.iconst 0, 1) := by decide +kernel
theorem dX7_dikeCount_3 : decode cX7_dikeCount 3 = .ok (.istore_n 2, 1) := by decide +kernel
theorem dX7_dikeCount_4 : decode cX7_dikeCount 4 = .ok (.iload_n 2, 1) := by decide +kernel
theorem dX7_dikeCount_5 : decode cX7_dikeCount 5 = .ok (.sipush 240, 3) := by decide +kernel
theorem dX7_dikeCount_8 : decode cX7_dikeCount 8 = .ok (.if_icmp .ge 18, 3) := by decide +kernel
theorem dX7_dikeCount_11 : decode cX7_dikeCount 11 = .ok (.iload_n 1, 1) := by decide +kernel
theorem dX7_dikeCount_12 : decode cX7_dikeCount 12 = .ok (.aload_n 0, 1) := by decide +kernel
theorem dX7_dikeCount_13 : decode cX7_dikeCount 13 = .ok (.getfield 35, 3) := by decide +kernel
theorem dX7_dikeCount_16 : decode cX7_dikeCount 16 = .ok (.iload_n 2, 1) := by decide +kernel
theorem dX7_dikeCount_17 : decode cX7_dikeCount 17 = .ok (.iaload, 1) := by decide +kernel
theorem dX7_dikeCount_18 : decode cX7_dikeCount 18 = .ok (.iadd, 1) := by decide +kernel
theorem dX7_dikeCount_19 : decode cX7_dikeCount 19 = .ok (.istore_n 1, 1) := by decide +kernel
theorem dX7_dikeCount_20 : decode cX7_dikeCount 20 = .ok (.iinc 2 1, 3) := by decide +kernel
theorem dX7_dikeCount_23 : decode cX7_dikeCount 23 = .ok (.goto (-19), 3) := by decide +kernel
theorem dX7_dikeCount_26 : decode cX7_dikeCount 26 = .ok (.iload_n 1, 1) := by decide +kernel
theorem dX7_dikeCount_27 : decode cX7_dikeCount 27 = .ok (.ireturn, 1) := by decide +kernel
theorem dX7_hasFlood_0 : decode cX7_hasFlood 0 = .ok (.iconst 0, 1) := by decide +kernel
theorem dX7_hasFlood_1 : decode cX7_hasFlood 1 = .ok (.istore_n 2, 1) := by decide +kernel
theorem dX7_hasFlood_2 : decode cX7_hasFlood 2 = .ok (.iload_n 2, 1) := by decide +kernel
theorem dX7_hasFlood_3 : decode cX7_hasFlood 3 = .ok (.aload_n 0, 1) := by decide +kernel
theorem dX7_hasFlood_4 : decode cX7_hasFlood 4 = .ok (.getfield 65, 3) := by decide +kernel
theorem dX7_hasFlood_7 : decode cX7_hasFlood 7 = .ok (.if_icmp .ge 27, 3) := by decide +kernel
theorem dX7_hasFlood_10 : decode cX7_hasFlood 10 = .ok (.iload_n 2, 1) := by decide +kernel
theorem dX7_hasFlood_11 : decode cX7_hasFlood 11 = .ok (.bipush 8, 2) := by decide +kernel
theorem dX7_hasFlood_13 : decode cX7_hasFlood 13 = .ok (.if_icmp .ge 21, 3) := by decide +kernel
theorem dX7_hasFlood_16 : decode cX7_hasFlood 16 = .ok (.aload_n 0, 1) := by decide +kernel
theorem dX7_hasFlood_17 : decode cX7_hasFlood 17 = .ok (.getfield 41, 3) := by decide +kernel
theorem dX7_hasFlood_20 : decode cX7_hasFlood 20 = .ok (.iload_n 2, 1) := by decide +kernel
theorem dX7_hasFlood_21 : decode cX7_hasFlood 21 = .ok (.iaload, 1) := by decide +kernel
theorem dX7_hasFlood_22 : decode cX7_hasFlood 22 = .ok (.iload_n 1, 1) := by decide +kernel
theorem dX7_hasFlood_23 : decode cX7_hasFlood 23 = .ok (.if_icmp .ne 5, 3) := by decide +kernel
theorem dX7_hasFlood_26 : decode cX7_hasFlood 26 = .ok (.iconst 1, 1) := by decide +kernel
theorem dX7_hasFlood_27 : decode cX7_hasFlood 27 = .ok (.ireturn, 1) := by decide +kernel
theorem dX7_hasFlood_28 : decode cX7_hasFlood 28 = .ok (.iinc 2 1, 3) := by decide +kernel
theorem dX7_hasFlood_31 : decode cX7_hasFlood 31 = .ok (.goto (-29), 3) := by decide +kernel
theorem dX7_hasFlood_34 : decode cX7_hasFlood 34 = .ok (.iconst 0, 1) := by decide +kernel
theorem dX7_hasFlood_35 : decode cX7_hasFlood 35 = .ok (.ireturn, 1) := by decide +kernel
theorem dX7_changeFlood_0 : decode cX7_changeFlood 0 = .ok (.iload_n 2, 1) := by decide +kernel
theorem dX7_changeFlood_1 : decode cX7_changeFlood 1 = .ok (.ifCond .eq 11, 3) := by decide +kernel
theorem dX7_changeFlood_4 : decode cX7_changeFlood 4 = .ok (.aload_n 0, 1) := by decide +kernel
theorem dX7_changeFlood_5 : decode cX7_changeFlood 5 = .ok (.iload_n 1, 1) := by decide +kernel
theorem dX7_changeFlood_6 : decode cX7_changeFlood 6 = .ok (.invokevirtual 95, 3) := by decide +kernel
theorem dX7_changeFlood_9 : decode cX7_changeFlood 9 = .ok (.goto 8, 3) := by decide +kernel
theorem dX7_changeFlood_12 : decode cX7_changeFlood 12 = .ok (.aload_n 0, 1) := by decide +kernel
theorem dX7_changeFlood_13 : decode cX7_changeFlood 13 = .ok (.iload_n 1, 1) := by decide +kernel
theorem dX7_changeFlood_14 : decode cX7_changeFlood 14 = .ok (.invokevirtual 99, 3) := by decide +kernel
theorem dX7_changeFlood_17 : decode cX7_changeFlood 17 = .ok (.return_, 1) := by decide +kernel
theorem dX7_addFlood_0 : decode cX7_addFlood 0 = .ok (.aload_n 0, 1) := by decide +kernel
theorem dX7_addFlood_1 : decode cX7_addFlood 1 = .ok (.getfield 65, 3) := by decide +kernel
theorem dX7_addFlood_4 : decode cX7_addFlood 4 = .ok (.ifCond .lt 32, 3) := by decide +kernel
theorem dX7_addFlood_7 : decode cX7_addFlood 7 = .ok (.aload_n 0, 1) := by decide +kernel
theorem dX7_addFlood_8 : decode cX7_addFlood 8 = .ok (.getfield 65, 3) := by decide +kernel
theorem dX7_addFlood_11 : decode cX7_addFlood 11 = .ok (.bipush 8, 2) := by decide +kernel
theorem dX7_addFlood_13 : decode cX7_addFlood 13 = .ok (.if_icmp .ge 23, 3) := by decide +kernel
theorem dX7_addFlood_16 : decode cX7_addFlood 16 = .ok (.aload_n 0, 1) := by decide +kernel
theorem dX7_addFlood_17 : decode cX7_addFlood 17 = .ok (.getfield 41, 3) := by decide +kernel
theorem dX7_addFlood_20 : decode cX7_addFlood 20 = .ok (.aload_n 0, 1) := by decide +kernel
theorem dX7_addFlood_21 : decode cX7_addFlood 21 = .ok (.getfield 65, 3) := by decide +kernel
theorem dX7_addFlood_24 : decode cX7_addFlood 24 = .ok (.iload_n 1, 1) := by decide +kernel
theorem dX7_addFlood_25 : decode cX7_addFlood 25 = .ok (.iastore, 1) := by decide +kernel
theorem dX7_addFlood_26 : decode cX7_addFlood 26 = .ok (.aload_n 0, 1) := by decide +kernel
theorem dX7_addFlood_27 : decode cX7_addFlood 27 = .ok (.dup, 1) := by decide +kernel
theorem dX7_addFlood_28 : decode cX7_addFlood 28 = .ok (.getfield 65, 3) := by decide +kernel
theorem dX7_addFlood_31 : decode cX7_addFlood 31 = .ok (.iconst 1, 1) := by decide +kernel
theorem dX7_addFlood_32 : decode cX7_addFlood 32 = .ok (.iadd, 1) := by decide +kernel
theorem dX7_addFlood_33 : decode cX7_addFlood 33 = .ok (.putfield 65, 3) := by decide +kernel
theorem dX7_addFlood_36 : decode cX7_addFlood 36 = .ok (.return_, 1) := by decide +kernel
theorem dX7_removeFlood_0 : decode cX7_removeFlood 0 = .ok (.iconst 0, 1) := by decide +kernel
theorem dX7_removeFlood_1 : decode cX7_removeFlood 1 = .ok (.istore_n 2, 1) := by decide +kernel
theorem dX7_removeFlood_2 : decode cX7_removeFlood 2 = .ok (.iconst 0, 1) := by decide +kernel
theorem dX7_removeFlood_3 : decode cX7_removeFlood 3 = .ok (.istore_n 3, 1) := by decide +kernel
theorem dX7_removeFlood_4 : decode cX7_removeFlood 4 = .ok (.iload_n 3, 1) := by decide +kernel
theorem dX7_removeFlood_5 : decode cX7_removeFlood 5 = .ok (.aload_n 0, 1) := by decide +kernel
theorem dX7_removeFlood_6 : decode cX7_removeFlood 6 = .ok (.getfield 65, 3) := by decide +kernel
theorem dX7_removeFlood_9 : decode cX7_removeFlood 9 = .ok (.if_icmp .ge 40, 3) := by decide +kernel
theorem dX7_removeFlood_12 : decode cX7_removeFlood 12 = .ok (.iload_n 3, 1) := by decide +kernel
theorem dX7_removeFlood_13 : decode cX7_removeFlood 13 = .ok (.bipush 8, 2) := by decide +kernel
theorem dX7_removeFlood_15 : decode cX7_removeFlood 15 = .ok (.if_icmp .ge 34, 3) := by decide +kernel
theorem dX7_removeFlood_18 : decode cX7_removeFlood 18 = .ok (.aload_n 0, 1) := by decide +kernel
theorem dX7_removeFlood_19 : decode cX7_removeFlood 19 = .ok (.getfield 41, 3) := by decide +kernel
theorem dX7_removeFlood_22 : decode cX7_removeFlood 22 = .ok (.iload_n 3, 1) := by decide +kernel
theorem dX7_removeFlood_23 : decode cX7_removeFlood 23 = .ok (.iaload, 1) := by decide +kernel
theorem dX7_removeFlood_24 : decode cX7_removeFlood 24 = .ok (.iload_n 1, 1) := by decide +kernel
theorem dX7_removeFlood_25 : decode cX7_removeFlood 25 = .ok (.if_icmp .eq 18, 3) := by decide +kernel
theorem dX7_removeFlood_28 : decode cX7_removeFlood 28 = .ok (.aload_n 0, 1) := by decide +kernel
theorem dX7_removeFlood_29 : decode cX7_removeFlood 29 = .ok (.getfield 41, 3) := by decide +kernel
theorem dX7_removeFlood_32 : decode cX7_removeFlood 32 = .ok (.iload_n 2, 1) := by decide +kernel
theorem dX7_removeFlood_33 : decode cX7_removeFlood 33 = .ok (.aload_n 0, 1) := by decide +kernel
theorem dX7_removeFlood_34 : decode cX7_removeFlood 34 = .ok (.getfield 41, 3) := by decide +kernel
theorem dX7_removeFlood_37 : decode cX7_removeFlood 37 = .ok (.iload_n 3, 1) := by decide +kernel
theorem dX7_removeFlood_38 : decode cX7_removeFlood 38 = .ok (.iaload, 1) := by decide +kernel
theorem dX7_removeFlood_39 : decode cX7_removeFlood 39 = .ok (.iastore, 1) := by decide +kernel
theorem dX7_removeFlood_40 : decode cX7_removeFlood 40 = .ok (.iinc 2 1, 3) := by decide +kernel
theorem dX7_removeFlood_43 : decode cX7_removeFlood 43 = .ok (.iinc 3 1, 3) := by decide +kernel
theorem dX7_removeFlood_46 : decode cX7_removeFlood 46 = .ok (.goto (-42), 3) := by decide +kernel
theorem dX7_removeFlood_49 : decode cX7_removeFlood 49 = .ok (.aload_n 0, 1) := by decide +kernel
theorem dX7_removeFlood_50 : decode cX7_removeFlood 50 = .ok (.iload_n 2, 1) := by decide +kernel
theorem dX7_removeFlood_51 : decode cX7_removeFlood 51 = .ok (.putfield 65, 3) := by decide +kernel
theorem dX7_removeFlood_54 : decode cX7_removeFlood 54 = .ok (.return_, 1) := by decide +kernel
theorem dX7_wearOf_0 : decode cX7_wearOf 0 = .ok (.iload_n 1, 1) := by decide +kernel
theorem dX7_wearOf_1 : decode cX7_wearOf 1 = .ok (.invokestatic 88, 3) := by decide +kernel
theorem dX7_wearOf_4 : decode cX7_wearOf 4 = .ok (.ifCond .eq 12, 3) := by decide +kernel
theorem dX7_wearOf_7 : decode cX7_wearOf 7 = .ok (.aload_n 0, 1) := by decide +kernel
theorem dX7_wearOf_8 : decode cX7_wearOf 8 = .ok (.getfield 32, 3) := by decide +kernel
theorem dX7_wearOf_11 : decode cX7_wearOf 11 = .ok (.iload_n 1, 1) := by decide +kernel
theorem dX7_wearOf_12 : decode cX7_wearOf 12 = .ok (.iaload, 1) := by decide +kernel
theorem dX7_wearOf_13 : decode cX7_wearOf 13 = .ok (.goto 4, 3) := by decide +kernel
theorem dX7_wearOf_16 : decode cX7_wearOf 16 = .ok (.iconst 0, 1) := by decide +kernel
theorem dX7_wearOf_17 : decode cX7_wearOf 17 = .ok (.ireturn, 1) := by decide +kernel
theorem dX7_wearSum_0 : decode cX7_wearSum 0 = .ok (.iconst 0, 1) := by decide +kernel
theorem dX7_wearSum_1 : decode cX7_wearSum 1 = .ok (.istore_n 1, 1) := by decide +kernel
theorem dX7_wearSum_2 : decode cX7_wearSum 2 = .ok (.iconst 0, 1) := by decide +kernel
theorem dX7_wearSum_3 : decode cX7_wearSum 3 = .ok (.istore_n 2, 1) := by decide +kernel
theorem dX7_wearSum_4 : decode cX7_wearSum 4 = .ok (.iload_n 2, 1) := by decide +kernel
theorem dX7_wearSum_5 : decode cX7_wearSum 5 = .ok (.sipush 240, 3) := by decide +kernel
theorem dX7_wearSum_8 : decode cX7_wearSum 8 = .ok (.if_icmp .ge 18, 3) := by decide +kernel
theorem dX7_wearSum_11 : decode cX7_wearSum 11 = .ok (.iload_n 1, 1) := by decide +kernel
theorem dX7_wearSum_12 : decode cX7_wearSum 12 = .ok (.aload_n 0, 1) := by decide +kernel
theorem dX7_wearSum_13 : decode cX7_wearSum 13 = .ok (.getfield 32, 3) := by decide +kernel
theorem dX7_wearSum_16 : decode cX7_wearSum 16 = .ok (.iload_n 2, 1) := by decide +kernel
theorem dX7_wearSum_17 : decode cX7_wearSum 17 = .ok (.iaload, 1) := by decide +kernel
theorem dX7_wearSum_18 : decode cX7_wearSum 18 = .ok (.iadd, 1) := by decide +kernel
theorem dX7_wearSum_19 : decode cX7_wearSum 19 = .ok (.istore_n 1, 1) := by decide +kernel
theorem dX7_wearSum_20 : decode cX7_wearSum 20 = .ok (.iinc 2 1, 3) := by decide +kernel
theorem dX7_wearSum_23 : decode cX7_wearSum 23 = .ok (.goto (-19), 3) := by decide +kernel
theorem dX7_wearSum_26 : decode cX7_wearSum 26 = .ok (.iload_n 1, 1) := by decide +kernel
theorem dX7_wearSum_27 : decode cX7_wearSum 27 = .ok (.ireturn, 1) := by decide +kernel
theorem dX7_bankCell_0 : decode cX7_bankCell 0 = .ok (.aload_n 0, 1) := by decide +kernel
theorem dX7_bankCell_1 : decode cX7_bankCell 1 = .ok (.getfield 21, 3) := by decide +kernel
theorem dX7_bankCell_4 : decode cX7_bankCell 4 = .ok (.iload_n 2, 1) := by decide +kernel
theorem dX7_bankCell_5 : decode cX7_bankCell 5 = .ok (.invokevirtual 102, 3) := by decide +kernel
theorem dX7_bankCell_8 : decode cX7_bankCell 8 = .ok (.aload_n 1, 1) := by decide +kernel
theorem dX7_bankCell_9 : decode cX7_bankCell 9 = .ok (.getfield 106, 3) := by decide +kernel
theorem dX7_bankCell_12 : decode cX7_bankCell 12 = .ok (.invokestatic 111, 3) := by decide +kernel
theorem dX7_bankCell_15 : decode cX7_bankCell 15 = .ok (.ireturn, 1) := by decide +kernel
theorem dX7_isFirm_0 : decode cX7_isFirm 0 = .ok (.aload_n 1, 1) := by decide +kernel
theorem dX7_isFirm_1 : decode cX7_isFirm 1 = .ok (.getfield 114, 3) := by decide +kernel
theorem dX7_isFirm_4 : decode cX7_isFirm 4 = .ok (.istore_n 2, 1) := by decide +kernel
theorem dX7_isFirm_5 : decode cX7_isFirm 5 = .ok (.iload_n 2, 1) := by decide +kernel
theorem dX7_isFirm_6 : decode cX7_isFirm 6 = .ok (.aload_n 1, 1) := by decide +kernel
theorem dX7_isFirm_7 : decode cX7_isFirm 7 = .ok (.getfield 117, 3) := by decide +kernel
theorem dX7_isFirm_10 : decode cX7_isFirm 10 = .ok (.if_icmp .gt 43, 3) := by decide +kernel
theorem dX7_isFirm_13 : decode cX7_isFirm 13 = .ok (.aload_n 0, 1) := by decide +kernel
theorem dX7_isFirm_14 : decode cX7_isFirm 14 = .ok (.aload_n 1, 1) := by decide +kernel
theorem dX7_isFirm_15 : decode cX7_isFirm 15 = .ok (.iload_n 2, 1) := by decide +kernel
theorem dX7_isFirm_16 : decode cX7_isFirm 16 = .ok (.invokevirtual 120, 3) := by decide +kernel
theorem dX7_isFirm_19 : decode cX7_isFirm 19 = .ok (.istore_n 3, 1) := by decide +kernel
theorem dX7_isFirm_20 : decode cX7_isFirm 20 = .ok (.iload_n 3, 1) := by decide +kernel
theorem dX7_isFirm_21 : decode cX7_isFirm 21 = .ok (.iconst (-1), 1) := by decide +kernel
theorem dX7_isFirm_22 : decode cX7_isFirm 22 = .ok (.if_icmp .eq 23, 3) := by decide +kernel
theorem dX7_isFirm_25 : decode cX7_isFirm 25 = .ok (.aload_n 0, 1) := by decide +kernel
theorem dX7_isFirm_26 : decode cX7_isFirm 26 = .ok (.iload_n 3, 1) := by decide +kernel
theorem dX7_isFirm_27 : decode cX7_isFirm 27 = .ok (.invokevirtual 124, 3) := by decide +kernel
theorem dX7_isFirm_30 : decode cX7_isFirm 30 = .ok (.ifCond .ne 15, 3) := by decide +kernel
theorem dX7_isFirm_33 : decode cX7_isFirm 33 = .ok (.aload_n 0, 1) := by decide +kernel
theorem dX7_isFirm_34 : decode cX7_isFirm 34 = .ok (.getfield 21, 3) := by decide +kernel
theorem dX7_isFirm_37 : decode cX7_isFirm 37 = .ok (.iload_n 3, 1) := by decide +kernel
theorem dX7_isFirm_38 : decode cX7_isFirm 38 = .ok (.invokevirtual 127, 3) := by decide +kernel
theorem dX7_isFirm_41 : decode cX7_isFirm 41 = .ok (.iconst (-1), 1) := by decide +kernel
theorem dX7_isFirm_42 : decode cX7_isFirm 42 = .ok (.if_icmp .eq 5, 3) := by decide +kernel
theorem dX7_isFirm_45 : decode cX7_isFirm 45 = .ok (.iconst 1, 1) := by decide +kernel
theorem dX7_isFirm_46 : decode cX7_isFirm 46 = .ok (.ireturn, 1) := by decide +kernel
theorem dX7_isFirm_47 : decode cX7_isFirm 47 = .ok (.iinc 2 1, 3) := by decide +kernel
theorem dX7_isFirm_50 : decode cX7_isFirm 50 = .ok (.goto (-45), 3) := by decide +kernel
theorem dX7_isFirm_53 : decode cX7_isFirm 53 = .ok (.iconst 0, 1) := by decide +kernel
theorem dX7_isFirm_54 : decode cX7_isFirm 54 = .ok (.ireturn, 1) := by decide +kernel
theorem dX7_leastWear_0 : decode cX7_leastWear 0 = .ok (.bipush 99, 2) := by decide +kernel
theorem dX7_leastWear_2 : decode cX7_leastWear 2 = .ok (.istore_n 2, 1) := by decide +kernel
theorem dX7_leastWear_3 : decode cX7_leastWear 3 = .ok (.aload_n 1, 1) := by decide +kernel
theorem dX7_leastWear_4 : decode cX7_leastWear 4 = .ok (.getfield 114, 3) := by decide +kernel
theorem dX7_leastWear_7 : decode cX7_leastWear 7 = .ok (.istore_n 3, 1) := by decide +kernel
theorem dX7_leastWear_8 : decode cX7_leastWear 8 = .ok (.iload_n 3, 1) := by decide +kernel
theorem dX7_leastWear_9 : decode cX7_leastWear 9 = .ok (.aload_n 1, 1) := by decide +kernel
theorem dX7_leastWear_10 : decode cX7_leastWear 10 = .ok (.getfield 117, 3) := by decide +kernel
theorem dX7_leastWear_13 : decode cX7_leastWear 13 = .ok (.if_icmp .gt 24, 3) := by decide +kernel
theorem dX7_leastWear_16 : decode cX7_leastWear 16 = .ok (.iload_n 2, 1) := by decide +kernel
theorem dX7_leastWear_17 : decode cX7_leastWear 17 = .ok (.aload_n 0, 1) := by decide +kernel
theorem dX7_leastWear_18 : decode cX7_leastWear 18 = .ok (.aload_n 0, 1) := by decide +kernel
theorem dX7_leastWear_19 : decode cX7_leastWear 19 = .ok (.aload_n 1, 1) := by decide +kernel
theorem dX7_leastWear_20 : decode cX7_leastWear 20 = .ok (.iload_n 3, 1) := by decide +kernel
theorem dX7_leastWear_21 : decode cX7_leastWear 21 = .ok (.invokevirtual 120, 3) := by decide +kernel
theorem dX7_leastWear_24 : decode cX7_leastWear 24 = .ok (.invokevirtual 130, 3) := by decide +kernel
theorem dX7_leastWear_27 : decode cX7_leastWear 27 = .ok (.invokestatic 133, 3) := by decide +kernel
theorem dX7_leastWear_30 : decode cX7_leastWear 30 = .ok (.istore_n 2, 1) := by decide +kernel
theorem dX7_leastWear_31 : decode cX7_leastWear 31 = .ok (.iinc 3 1, 3) := by decide +kernel
theorem dX7_leastWear_34 : decode cX7_leastWear 34 = .ok (.goto (-26), 3) := by decide +kernel
theorem dX7_leastWear_37 : decode cX7_leastWear 37 = .ok (.iload_n 2, 1) := by decide +kernel
theorem dX7_leastWear_38 : decode cX7_leastWear 38 = .ok (.ireturn, 1) := by decide +kernel
theorem dX7_canGrow_0 : decode cX7_canGrow 0 = .ok (.aload_n 0, 1) := by decide +kernel
theorem dX7_canGrow_1 : decode cX7_canGrow 1 = .ok (.getfield 21, 3) := by decide +kernel
theorem dX7_canGrow_4 : decode cX7_canGrow 4 = .ok (.invokevirtual 138, 3) := by decide +kernel
theorem dX7_canGrow_7 : decode cX7_canGrow 7 = .ok (.iconst 2, 1) := by decide +kernel
theorem dX7_canGrow_8 : decode cX7_canGrow 8 = .ok (.iadd, 1) := by decide +kernel
theorem dX7_canGrow_9 : decode cX7_canGrow 9 = .ok (.sipush 150, 3) := by decide +kernel
theorem dX7_canGrow_12 : decode cX7_canGrow 12 = .ok (.if_icmp .gt 28, 3) := by decide +kernel
theorem dX7_canGrow_15 : decode cX7_canGrow 15 = .ok (.aload_n 0, 1) := by decide +kernel
theorem dX7_canGrow_16 : decode cX7_canGrow 16 = .ok (.aload_n 1, 1) := by decide +kernel
theorem dX7_canGrow_17 : decode cX7_canGrow 17 = .ok (.invokevirtual 142, 3) := by decide +kernel
theorem dX7_canGrow_20 : decode cX7_canGrow 20 = .ok (.ifCond .ne 20, 3) := by decide +kernel
theorem dX7_canGrow_23 : decode cX7_canGrow 23 = .ok (.aload_n 0, 1) := by decide +kernel
theorem dX7_canGrow_24 : decode cX7_canGrow 24 = .ok (.aload_n 1, 1) := by decide +kernel
theorem dX7_canGrow_25 : decode cX7_canGrow 25 = .ok (.invokevirtual 146, 3) := by decide +kernel
theorem dX7_canGrow_28 : decode cX7_canGrow 28 = .ok (.aload_n 0, 1) := by decide +kernel
theorem dX7_canGrow_29 : decode cX7_canGrow 29 = .ok (.iconst 1, 1) := by decide +kernel
theorem dX7_canGrow_30 : decode cX7_canGrow 30 = .ok (.invokevirtual 150, 3) := by decide +kernel
theorem dX7_canGrow_33 : decode cX7_canGrow 33 = .ok (.if_icmp .lt 7, 3) := by decide +kernel
theorem dX7_canGrow_36 : decode cX7_canGrow 36 = .ok (.iconst 1, 1) := by decide +kernel
theorem dX7_canGrow_37 : decode cX7_canGrow 37 = .ok (.goto 4, 3) := by decide +kernel
theorem dX7_canGrow_40 : decode cX7_canGrow 40 = .ok (.iconst 0, 1) := by decide +kernel
theorem dX7_canGrow_41 : decode cX7_canGrow 41 = .ok (.ireturn, 1) := by decide +kernel
theorem dX7_wearBank_0 : decode cX7_wearBank 0 = .ok (.aload_n 1, 1) := by decide +kernel
theorem dX7_wearBank_1 : decode cX7_wearBank 1 = .ok (.getfield 114, 3) := by decide +kernel
theorem dX7_wearBank_4 : decode cX7_wearBank 4 = .ok (.istore_n 3, 1) := by decide +kernel
theorem dX7_wearBank_5 : decode cX7_wearBank 5 = .ok (.iload_n 3, 1) := by decide +kernel
theorem dX7_wearBank_6 : decode cX7_wearBank 6 = .ok (.aload_n 1, 1) := by decide +kernel
theorem dX7_wearBank_7 : decode cX7_wearBank 7 = .ok (.getfield 117, 3) := by decide +kernel
theorem dX7_wearBank_10 : decode cX7_wearBank 10 = .ok (.if_icmp .gt 76, 3) := by decide +kernel
theorem dX7_wearBank_13 : decode cX7_wearBank 13 = .ok (.aload_n 0, 1) := by decide +kernel
theorem dX7_wearBank_14 : decode cX7_wearBank 14 = .ok (.aload_n 1, 1) := by decide +kernel
theorem dX7_wearBank_15 : decode cX7_wearBank 15 = .ok (.iload_n 3, 1) := by decide +kernel
theorem dX7_wearBank_16 : decode cX7_wearBank 16 = .ok (.invokevirtual 120, 3) := by decide +kernel
theorem dX7_wearBank_19 : decode cX7_wearBank 19 = .ok (.istore 4, 2) := by decide +kernel
theorem dX7_wearBank_21 : decode cX7_wearBank 21 = .ok (.iload 4, 2) := by decide +kernel
theorem dX7_wearBank_23 : decode cX7_wearBank 23 = .ok (.invokestatic 88, 3) := by decide +kernel
theorem dX7_wearBank_26 : decode cX7_wearBank 26 = .ok (.ifCond .eq 54, 3) := by decide +kernel
theorem dX7_wearBank_29 : decode cX7_wearBank 29 = .ok (.aload_n 0, 1) := by decide +kernel
theorem dX7_wearBank_30 : decode cX7_wearBank 30 = .ok (.getfield 28, 3) := by decide +kernel
theorem dX7_wearBank_33 : decode cX7_wearBank 33 = .ok (.iload 4, 2) := by decide +kernel
theorem dX7_wearBank_35 : decode cX7_wearBank 35 = .ok (.invokevirtual 153, 3) := by decide +kernel
theorem dX7_wearBank_38 : decode cX7_wearBank 38 = .ok (.iconst (-1), 1) := by decide +kernel
theorem dX7_wearBank_39 : decode cX7_wearBank 39 = .ok (.if_icmp .eq 7, 3) := by decide +kernel
theorem dX7_wearBank_42 : decode cX7_wearBank 42 = .ok (.iconst 1, 1) := by decide +kernel
theorem dX7_wearBank_43 : decode cX7_wearBank 43 = .ok (.goto 4, 3) := by decide +kernel
theorem dX7_wearBank_46 : decode cX7_wearBank 46 = .ok (.iconst 0, 1) := by decide +kernel
theorem dX7_wearBank_47 : decode cX7_wearBank 47 = .ok (.istore 5, 2) := by decide +kernel
theorem dX7_wearBank_49 : decode cX7_wearBank 49 = .ok (.aload_n 0, 1) := by decide +kernel
theorem dX7_wearBank_50 : decode cX7_wearBank 50 = .ok (.getfield 32, 3) := by decide +kernel
theorem dX7_wearBank_53 : decode cX7_wearBank 53 = .ok (.iload 4, 2) := by decide +kernel
theorem dX7_wearBank_55 : decode cX7_wearBank 55 = .ok (.iload 5, 2) := by decide +kernel
theorem dX7_wearBank_57 : decode cX7_wearBank 57 = .ok (.ifCond .eq 8, 3) := by decide +kernel
theorem dX7_wearBank_60 : decode cX7_wearBank 60 = .ok (.bipush 99, 2) := by decide +kernel
theorem dX7_wearBank_62 : decode cX7_wearBank 62 = .ok (.goto 17, 3) := by decide +kernel
theorem dX7_wearBank_65 : decode cX7_wearBank 65 = .ok (.aload_n 0, 1) := by decide +kernel
theorem dX7_wearBank_66 : decode cX7_wearBank 66 = .ok (.getfield 32, 3) := by decide +kernel
theorem dX7_wearBank_69 : decode cX7_wearBank 69 = .ok (.iload 4, 2) := by decide +kernel
theorem dX7_wearBank_71 : decode cX7_wearBank 71 = .ok (.iaload, 1) := by decide +kernel
theorem dX7_wearBank_72 : decode cX7_wearBank 72 = .ok (.iload_n 2, 1) := by decide +kernel
theorem dX7_wearBank_73 : decode cX7_wearBank 73 = .ok (.iadd, 1) := by decide +kernel
theorem dX7_wearBank_74 : decode cX7_wearBank 74 = .ok (.bipush 99, 2) := by decide +kernel
theorem dX7_wearBank_76 : decode cX7_wearBank 76 = .ok (.invokestatic 133, 3) := by decide +kernel
theorem dX7_wearBank_79 : decode cX7_wearBank 79 = .ok (.iastore, 1) := by decide +kernel
theorem dX7_wearBank_80 : decode cX7_wearBank 80 = .ok (.iinc 3 1, 3) := by decide +kernel
theorem dX7_wearBank_83 : decode cX7_wearBank 83 = .ok (.goto (-78), 3) := by decide +kernel
theorem dX7_wearBank_86 : decode cX7_wearBank 86 = .ok (.return_, 1) := by decide +kernel
theorem dX7_growBend_0 : decode cX7_growBend 0 = .ok (.aload_n 1, 1) := by decide +kernel
theorem dX7_growBend_1 : decode cX7_growBend 1 = .ok (.getfield 114, 3) := by decide +kernel
theorem dX7_growBend_4 : decode cX7_growBend 4 = .ok (.istore_n 2, 1) := by decide +kernel
theorem dX7_growBend_5 : decode cX7_growBend 5 = .ok (.iload_n 2, 1) := by decide +kernel
theorem dX7_growBend_6 : decode cX7_growBend 6 = .ok (.aload_n 1, 1) := by decide +kernel
theorem dX7_growBend_7 : decode cX7_growBend 7 = .ok (.getfield 117, 3) := by decide +kernel
theorem dX7_growBend_10 : decode cX7_growBend 10 = .ok (.if_icmp .gt 45, 3) := by decide +kernel
theorem dX7_growBend_13 : decode cX7_growBend 13 = .ok (.aload_n 0, 1) := by decide +kernel
theorem dX7_growBend_14 : decode cX7_growBend 14 = .ok (.aload_n 1, 1) := by decide +kernel
theorem dX7_growBend_15 : decode cX7_growBend 15 = .ok (.iload_n 2, 1) := by decide +kernel
theorem dX7_growBend_16 : decode cX7_growBend 16 = .ok (.invokevirtual 120, 3) := by decide +kernel
theorem dX7_growBend_19 : decode cX7_growBend 19 = .ok (.istore_n 3, 1) := by decide +kernel
theorem dX7_growBend_20 : decode cX7_growBend 20 = .ok (.iload_n 3, 1) := by decide +kernel
theorem dX7_growBend_21 : decode cX7_growBend 21 = .ok (.invokestatic 88, 3) := by decide +kernel
theorem dX7_growBend_24 : decode cX7_growBend 24 = .ok (.ifCond .eq 25, 3) := by decide +kernel
theorem dX7_growBend_27 : decode cX7_growBend 27 = .ok (.aload_n 0, 1) := by decide +kernel
theorem dX7_growBend_28 : decode cX7_growBend 28 = .ok (.getfield 32, 3) := by decide +kernel
theorem dX7_growBend_31 : decode cX7_growBend 31 = .ok (.iload_n 3, 1) := by decide +kernel
theorem dX7_growBend_32 : decode cX7_growBend 32 = .ok (.iconst 0, 1) := by decide +kernel
theorem dX7_growBend_33 : decode cX7_growBend 33 = .ok (.iastore, 1) := by decide +kernel
theorem dX7_growBend_34 : decode cX7_growBend 34 = .ok (.aload_n 0, 1) := by decide +kernel
theorem dX7_growBend_35 : decode cX7_growBend 35 = .ok (.getfield 28, 3) := by decide +kernel
theorem dX7_growBend_38 : decode cX7_growBend 38 = .ok (.aload_n 0, 1) := by decide +kernel
theorem dX7_growBend_39 : decode cX7_growBend 39 = .ok (.getfield 28, 3) := by decide +kernel
theorem dX7_growBend_42 : decode cX7_growBend 42 = .ok (.iload_n 3, 1) := by decide +kernel
theorem dX7_growBend_43 : decode cX7_growBend 43 = .ok (.invokevirtual 153, 3) := by decide +kernel
theorem dX7_growBend_46 : decode cX7_growBend 46 = .ok (.invokevirtual 156, 3) := by decide +kernel
theorem dX7_growBend_49 : decode cX7_growBend 49 = .ok (.iinc 2 1, 3) := by decide +kernel
theorem dX7_growBend_52 : decode cX7_growBend 52 = .ok (.goto (-47), 3) := by decide +kernel
theorem dX7_growBend_55 : decode cX7_growBend 55 = .ok (.aload_n 0, 1) := by decide +kernel
theorem dX7_growBend_56 : decode cX7_growBend 56 = .ok (.getfield 21, 3) := by decide +kernel
theorem dX7_growBend_59 : decode cX7_growBend 59 = .ok (.aload_n 1, 1) := by decide +kernel
theorem dX7_growBend_60 : decode cX7_growBend 60 = .ok (.getfield 114, 3) := by decide +kernel
theorem dX7_growBend_63 : decode cX7_growBend 63 = .ok (.aload_n 1, 1) := by decide +kernel
theorem dX7_growBend_64 : decode cX7_growBend 64 = .ok (.getfield 117, 3) := by decide +kernel
theorem dX7_growBend_67 : decode cX7_growBend 67 = .ok (.aload_n 1, 1) := by decide +kernel
theorem dX7_growBend_68 : decode cX7_growBend 68 = .ok (.getfield 106, 3) := by decide +kernel
theorem dX7_growBend_71 : decode cX7_growBend 71 = .ok (.invokevirtual 159, 3) := by decide +kernel
theorem dX7_growBend_74 : decode cX7_growBend 74 = .ok (.aload_n 0, 1) := by decide +kernel
theorem dX7_growBend_75 : decode cX7_growBend 75 = .ok (.dup, 1) := by decide +kernel
theorem dX7_growBend_76 : decode cX7_growBend 76 = .ok (.getfield 75, 3) := by decide +kernel
theorem dX7_growBend_79 : decode cX7_growBend 79 = .ok (.iconst 1, 1) := by decide +kernel
theorem dX7_growBend_80 : decode cX7_growBend 80 = .ok (.iadd, 1) := by decide +kernel
theorem dX7_growBend_81 : decode cX7_growBend 81 = .ok (.putfield 75, 3) := by decide +kernel
theorem dX7_growBend_84 : decode cX7_growBend 84 = .ok (.return_, 1) := by decide +kernel
theorem dX7_ageOf_0 : decode cX7_ageOf 0 = .ok (.aload_n 0, 1) := by decide +kernel
theorem dX7_ageOf_1 : decode cX7_ageOf 1 = .ok (.getfield 21, 3) := by decide +kernel
theorem dX7_ageOf_4 : decode cX7_ageOf 4 = .ok (.iload_n 1, 1) := by decide +kernel
theorem dX7_ageOf_5 : decode cX7_ageOf 5 = .ok (.invokevirtual 102, 3) := by decide +kernel
theorem dX7_ageOf_8 : decode cX7_ageOf 8 = .ok (.istore_n 3, 1) := by decide +kernel
theorem dX7_ageOf_9 : decode cX7_ageOf 9 = .ok (.aload_n 0, 1) := by decide +kernel
theorem dX7_ageOf_10 : decode cX7_ageOf 10 = .ok (.getfield 21, 3) := by decide +kernel
theorem dX7_ageOf_13 : decode cX7_ageOf 13 = .ok (.iload_n 2, 1) := by decide +kernel
theorem dX7_ageOf_14 : decode cX7_ageOf 14 = .ok (.invokevirtual 102, 3) := by decide +kernel
theorem dX7_ageOf_17 : decode cX7_ageOf 17 = .ok (.istore 4, 2) := by decide +kernel
theorem dX7_ageOf_19 : decode cX7_ageOf 19 = .ok (.iload_n 3, 1) := by decide +kernel
theorem dX7_ageOf_20 : decode cX7_ageOf 20 = .ok (.iload 4, 2) := by decide +kernel
theorem dX7_ageOf_22 : decode cX7_ageOf 22 = .ok (.isub, 1) := by decide +kernel
theorem dX7_ageOf_23 : decode cX7_ageOf 23 = .ok (.invokestatic 163, 3) := by decide +kernel
theorem dX7_ageOf_26 : decode cX7_ageOf 26 = .ok (.bipush 20, 2) := by decide +kernel
theorem dX7_ageOf_28 : decode cX7_ageOf 28 = .ok (.if_icmp .ne 7, 3) := by decide +kernel
theorem dX7_ageOf_31 : decode cX7_ageOf 31 = .ok (.iconst 1, 1) := by decide +kernel
theorem dX7_ageOf_32 : decode cX7_ageOf 32 = .ok (.goto 4, 3) := by decide +kernel
theorem dX7_ageOf_35 : decode cX7_ageOf 35 = .ok (.iconst 0, 1) := by decide +kernel
theorem dX7_ageOf_36 : decode cX7_ageOf 36 = .ok (.istore 5, 2) := by decide +kernel
theorem dX7_ageOf_38 : decode cX7_ageOf 38 = .ok (.iload_n 3, 1) := by decide +kernel
theorem dX7_ageOf_39 : decode cX7_ageOf 39 = .ok (.iload 4, 2) := by decide +kernel
theorem dX7_ageOf_41 : decode cX7_ageOf 41 = .ok (.invokestatic 133, 3) := by decide +kernel
theorem dX7_ageOf_44 : decode cX7_ageOf 44 = .ok (.iload 5, 2) := by decide +kernel
theorem dX7_ageOf_46 : decode cX7_ageOf 46 = .ok (.invokestatic 166, 3) := by decide +kernel
theorem dX7_ageOf_49 : decode cX7_ageOf 49 = .ok (.istore 6, 2) := by decide +kernel
theorem dX7_ageOf_51 : decode cX7_ageOf 51 = .ok (.iload 6, 2) := by decide +kernel
theorem dX7_ageOf_53 : decode cX7_ageOf 53 = .ok (.ifCond .lt 21, 3) := by decide +kernel
theorem dX7_ageOf_56 : decode cX7_ageOf 56 = .ok (.iload 6, 2) := by decide +kernel
theorem dX7_ageOf_58 : decode cX7_ageOf 58 = .ok (.sipush 480, 3) := by decide +kernel
theorem dX7_ageOf_61 : decode cX7_ageOf 61 = .ok (.if_icmp .ge 13, 3) := by decide +kernel
theorem dX7_ageOf_64 : decode cX7_ageOf 64 = .ok (.aload_n 0, 1) := by decide +kernel
theorem dX7_ageOf_65 : decode cX7_ageOf 65 = .ok (.getfield 38, 3) := by decide +kernel
theorem dX7_ageOf_68 : decode cX7_ageOf 68 = .ok (.iload 6, 2) := by decide +kernel
theorem dX7_ageOf_70 : decode cX7_ageOf 70 = .ok (.iaload, 1) := by decide +kernel
theorem dX7_ageOf_71 : decode cX7_ageOf 71 = .ok (.goto 4, 3) := by decide +kernel
theorem dX7_ageOf_74 : decode cX7_ageOf 74 = .ok (.iconst 0, 1) := by decide +kernel
theorem dX7_ageOf_75 : decode cX7_ageOf 75 = .ok (.ireturn, 1) := by decide +kernel
theorem dX7_agePairs_0 : decode cX7_agePairs 0 = .ok (.iconst 0, 1) := by decide +kernel
theorem dX7_agePairs_1 : decode cX7_agePairs 1 = .ok (.istore_n 1, 1) := by decide +kernel
theorem dX7_agePairs_2 : decode cX7_agePairs 2 = .ok (.iload_n 1, 1) := by decide +kernel
theorem dX7_agePairs_3 : decode cX7_agePairs 3 = .ok (.sipush 240, 3) := by decide +kernel
theorem dX7_agePairs_6 : decode cX7_agePairs 6 = .ok (.if_icmp .ge 21, 3) := by decide +kernel
theorem dX7_agePairs_9 : decode cX7_agePairs 9 = .ok (.aload_n 0, 1) := by decide +kernel
theorem dX7_agePairs_10 : decode cX7_agePairs 10 = .ok (.iload_n 1, 1) := by decide +kernel
theorem dX7_agePairs_11 : decode cX7_agePairs 11 = .ok (.iconst 0, 1) := by decide +kernel
theorem dX7_agePairs_12 : decode cX7_agePairs 12 = .ok (.invokevirtual 169, 3) := by decide +kernel
theorem dX7_agePairs_15 : decode cX7_agePairs 15 = .ok (.aload_n 0, 1) := by decide +kernel
theorem dX7_agePairs_16 : decode cX7_agePairs 16 = .ok (.iload_n 1, 1) := by decide +kernel
theorem dX7_agePairs_17 : decode cX7_agePairs 17 = .ok (.iconst 1, 1) := by decide +kernel
theorem dX7_agePairs_18 : decode cX7_agePairs 18 = .ok (.invokevirtual 169, 3) := by decide +kernel
theorem dX7_agePairs_21 : decode cX7_agePairs 21 = .ok (.iinc 1 1, 3) := by decide +kernel
theorem dX7_agePairs_24 : decode cX7_agePairs 24 = .ok (.goto (-22), 3) := by decide +kernel
theorem dX7_agePairs_27 : decode cX7_agePairs 27 = .ok (.return_, 1) := by decide +kernel
theorem dX7_agePair_0 : decode cX7_agePair 0 = .ok (.aload_n 0, 1) := by decide +kernel
theorem dX7_agePair_1 : decode cX7_agePair 1 = .ok (.getfield 21, 3) := by decide +kernel
theorem dX7_agePair_4 : decode cX7_agePair 4 = .ok (.iload_n 1, 1) := by decide +kernel
theorem dX7_agePair_5 : decode cX7_agePair 5 = .ok (.invokevirtual 127, 3) := by decide +kernel
theorem dX7_agePair_8 : decode cX7_agePair 8 = .ok (.istore_n 3, 1) := by decide +kernel
theorem dX7_agePair_9 : decode cX7_agePair 9 = .ok (.aload_n 0, 1) := by decide +kernel
theorem dX7_agePair_10 : decode cX7_agePair 10 = .ok (.getfield 21, 3) := by decide +kernel
theorem dX7_agePair_13 : decode cX7_agePair 13 = .ok (.iload_n 1, 1) := by decide +kernel
theorem dX7_agePair_14 : decode cX7_agePair 14 = .ok (.iload_n 2, 1) := by decide +kernel
theorem dX7_agePair_15 : decode cX7_agePair 15 = .ok (.invokestatic 111, 3) := by decide +kernel
theorem dX7_agePair_18 : decode cX7_agePair 18 = .ok (.invokevirtual 127, 3) := by decide +kernel
theorem dX7_agePair_21 : decode cX7_agePair 21 = .ok (.istore 4, 2) := by decide +kernel
theorem dX7_agePair_23 : decode cX7_agePair 23 = .ok (.iload_n 3, 1) := by decide +kernel
theorem dX7_agePair_24 : decode cX7_agePair 24 = .ok (.iconst (-1), 1) := by decide +kernel
theorem dX7_agePair_25 : decode cX7_agePair 25 = .ok (.if_icmp .eq 24, 3) := by decide +kernel
theorem dX7_agePair_28 : decode cX7_agePair 28 = .ok (.iload 4, 2) := by decide +kernel
theorem dX7_agePair_30 : decode cX7_agePair 30 = .ok (.iconst (-1), 1) := by decide +kernel
theorem dX7_agePair_31 : decode cX7_agePair 31 = .ok (.if_icmp .eq 18, 3) := by decide +kernel
theorem dX7_agePair_34 : decode cX7_agePair 34 = .ok (.iload_n 3, 1) := by decide +kernel
theorem dX7_agePair_35 : decode cX7_agePair 35 = .ok (.iload 4, 2) := by decide +kernel
theorem dX7_agePair_37 : decode cX7_agePair 37 = .ok (.isub, 1) := by decide +kernel
theorem dX7_agePair_38 : decode cX7_agePair 38 = .ok (.invokestatic 163, 3) := by decide +kernel
theorem dX7_agePair_41 : decode cX7_agePair 41 = .ok (.iconst 3, 1) := by decide +kernel
theorem dX7_agePair_42 : decode cX7_agePair 42 = .ok (.if_icmp .lt 7, 3) := by decide +kernel
theorem dX7_agePair_45 : decode cX7_agePair 45 = .ok (.iconst 1, 1) := by decide +kernel
theorem dX7_agePair_46 : decode cX7_agePair 46 = .ok (.goto 4, 3) := by decide +kernel
theorem dX7_agePair_49 : decode cX7_agePair 49 = .ok (.iconst 0, 1) := by decide +kernel
theorem dX7_agePair_50 : decode cX7_agePair 50 = .ok (.istore 5, 2) := by decide +kernel
theorem dX7_agePair_52 : decode cX7_agePair 52 = .ok (.iload_n 1, 1) := by decide +kernel
theorem dX7_agePair_53 : decode cX7_agePair 53 = .ok (.iload_n 2, 1) := by decide +kernel
theorem dX7_agePair_54 : decode cX7_agePair 54 = .ok (.invokestatic 166, 3) := by decide +kernel
theorem dX7_agePair_57 : decode cX7_agePair 57 = .ok (.istore 6, 2) := by decide +kernel
theorem dX7_agePair_59 : decode cX7_agePair 59 = .ok (.iload 6, 2) := by decide +kernel
theorem dX7_agePair_61 : decode cX7_agePair 61 = .ok (.ifCond .lt 36, 3) := by decide +kernel
theorem dX7_agePair_64 : decode cX7_agePair 64 = .ok (.iload 6, 2) := by decide +kernel
theorem dX7_agePair_66 : decode cX7_agePair 66 = .ok (.sipush 480, 3) := by decide +kernel
theorem dX7_agePair_69 : decode cX7_agePair 69 = .ok (.if_icmp .ge 28, 3) := by decide +kernel
theorem dX7_agePair_72 : decode cX7_agePair 72 = .ok (.aload_n 0, 1) := by decide +kernel
theorem dX7_agePair_73 : decode cX7_agePair 73 = .ok (.getfield 38, 3) := by decide +kernel
theorem dX7_agePair_76 : decode cX7_agePair 76 = .ok (.iload 6, 2) := by decide +kernel
theorem dX7_agePair_78 : decode cX7_agePair 78 = .ok (.iload 5, 2) := by decide +kernel
theorem dX7_agePair_80 : decode cX7_agePair 80 = .ok (.ifCond .eq 15, 3) := by decide +kernel
theorem dX7_agePair_83 : decode cX7_agePair 83 = .ok (.aload_n 0, 1) := by decide +kernel
theorem dX7_agePair_84 : decode cX7_agePair 84 = .ok (.getfield 38, 3) := by decide +kernel
theorem dX7_agePair_87 : decode cX7_agePair 87 = .ok (.iload 6, 2) := by decide +kernel
theorem dX7_agePair_89 : decode cX7_agePair 89 = .ok (.iaload, 1) := by decide +kernel
theorem dX7_agePair_90 : decode cX7_agePair 90 = .ok (.iconst 1, 1) := by decide +kernel
theorem dX7_agePair_91 : decode cX7_agePair 91 = .ok (.iadd, 1) := by decide +kernel
theorem dX7_agePair_92 : decode cX7_agePair 92 = .ok (.goto 4, 3) := by decide +kernel
theorem dX7_agePair_95 : decode cX7_agePair 95 = .ok (.iconst 0, 1) := by decide +kernel
theorem dX7_agePair_96 : decode cX7_agePair 96 = .ok (.iastore, 1) := by decide +kernel
theorem dX7_agePair_97 : decode cX7_agePair 97 = .ok (.return_, 1) := by decide +kernel
theorem dX7_pairOf_0 : decode cX7_pairOf 0 = .ok (.iconst 2, 1) := by decide +kernel
theorem dX7_pairOf_1 : decode cX7_pairOf 1 = .ok (.iload_n 0, 1) := by decide +kernel
theorem dX7_pairOf_2 : decode cX7_pairOf 2 = .ok (.imul, 1) := by decide +kernel
theorem dX7_pairOf_3 : decode cX7_pairOf 3 = .ok (.iload_n 1, 1) := by decide +kernel
theorem dX7_pairOf_4 : decode cX7_pairOf 4 = .ok (.iadd, 1) := by decide +kernel
theorem dX7_pairOf_5 : decode cX7_pairOf 5 = .ok (.ireturn, 1) := by decide +kernel
theorem dX7_cutBetween_0 : decode cX7_cutBetween 0 = .ok (.aload_n 0, 1) := by decide +kernel
theorem dX7_cutBetween_1 : decode cX7_cutBetween 1 = .ok (.getfield 28, 3) := by decide +kernel
theorem dX7_cutBetween_4 : decode cX7_cutBetween 4 = .ok (.aload_n 0, 1) := by decide +kernel
theorem dX7_cutBetween_5 : decode cX7_cutBetween 5 = .ok (.getfield 21, 3) := by decide +kernel
theorem dX7_cutBetween_8 : decode cX7_cutBetween 8 = .ok (.iload_n 1, 1) := by decide +kernel
theorem dX7_cutBetween_9 : decode cX7_cutBetween 9 = .ok (.iload_n 2, 1) := by decide +kernel
theorem dX7_cutBetween_10 : decode cX7_cutBetween 10 = .ok (.invokevirtual 173, 3) := by decide +kernel
theorem dX7_cutBetween_13 : decode cX7_cutBetween 13 = .ok (.aload_n 0, 1) := by decide +kernel
theorem dX7_cutBetween_14 : decode cX7_cutBetween 14 = .ok (.getfield 21, 3) := by decide +kernel
theorem dX7_cutBetween_17 : decode cX7_cutBetween 17 = .ok (.iload_n 1, 1) := by decide +kernel
theorem dX7_cutBetween_18 : decode cX7_cutBetween 18 = .ok (.iload_n 2, 1) := by decide +kernel
theorem dX7_cutBetween_19 : decode cX7_cutBetween 19 = .ok (.invokevirtual 177, 3) := by decide +kernel
theorem dX7_cutBetween_22 : decode cX7_cutBetween 22 = .ok (.aload_n 0, 1) := by decide +kernel
theorem dX7_cutBetween_23 : decode cX7_cutBetween 23 = .ok (.dup, 1) := by decide +kernel
theorem dX7_cutBetween_24 : decode cX7_cutBetween 24 = .ok (.getfield 72, 3) := by decide +kernel
theorem dX7_cutBetween_27 : decode cX7_cutBetween 27 = .ok (.iconst 1, 1) := by decide +kernel
theorem dX7_cutBetween_28 : decode cX7_cutBetween 28 = .ok (.iadd, 1) := by decide +kernel
theorem dX7_cutBetween_29 : decode cX7_cutBetween 29 = .ok (.putfield 72, 3) := by decide +kernel
theorem dX7_cutBetween_32 : decode cX7_cutBetween 32 = .ok (.return_, 1) := by decide +kernel
theorem dX8_init_0 : decode cX8_init 0 = .ok (.aload_n 0, 1) := by decide +kernel
theorem dX8_init_1 : decode cX8_init 1 = .ok (.invokespecial 3, 3) := by decide +kernel
theorem dX8_init_4 : decode cX8_init 4 = .ok (.aload_n 0, 1) := by decide +kernel
theorem dX8_init_5 : decode cX8_init 5 = .ok (.new 9, 3) := by decide +kernel
theorem dX8_init_8 : decode cX8_init 8 = .ok (.dup, 1) := by decide +kernel
theorem dX8_init_9 : decode cX8_init 9 = .ok (.invokespecial 11, 3) := by decide +kernel
theorem dX8_init_12 : decode cX8_init 12 = .ok (.putfield 12, 3) := by decide +kernel
theorem dX8_init_15 : decode cX8_init 15 = .ok (.aload_n 0, 1) := by decide +kernel
theorem dX8_init_16 : decode cX8_init 16 = .ok (.new 9, 3) := by decide +kernel
theorem dX8_init_19 : decode cX8_init 19 = .ok (.dup, 1) := by decide +kernel
theorem dX8_init_20 : decode cX8_init 20 = .ok (.invokespecial 11, 3) := by decide +kernel
theorem dX8_init_23 : decode cX8_init 23 = .ok (.putfield 16, 3) := by decide +kernel
theorem dX8_init_26 : decode cX8_init 26 = .ok (.aload_n 0, 1) := by decide +kernel
theorem dX8_init_27 : decode cX8_init 27 = .ok (.iconst 2, 1) := by decide +kernel
theorem dX8_init_28 : decode cX8_init 28 = .ok (.anewarray 9, 3) := by decide +kernel
theorem dX8_init_31 : decode cX8_init 31 = .ok (.putfield 19, 3) := by decide +kernel
theorem dX8_init_34 : decode cX8_init 34 = .ok (.aload_n 0, 1) := by decide +kernel
theorem dX8_init_35 : decode cX8_init 35 = .ok (.iconst 2, 1) := by decide +kernel
theorem dX8_init_36 : decode cX8_init 36 = .ok (.newarray .boolean, 2) := by decide +kernel
theorem dX8_init_38 : decode cX8_init 38 = .ok (.putfield 23, 3) := by decide +kernel
theorem dX8_init_41 : decode cX8_init 41 = .ok (.aload_n 0, 1) := by decide +kernel
theorem dX8_init_42 : decode cX8_init 42 = .ok (.new 27, 3) := by decide +kernel
theorem dX8_init_45 : decode cX8_init 45 = .ok (.dup, 1) := by decide +kernel
theorem dX8_init_46 : decode cX8_init 46 = .ok (.invokespecial 29, 3) := by decide +kernel
theorem dX8_init_49 : decode cX8_init 49 = .ok (.putfield 30, 3) := by decide +kernel
theorem dX8_init_52 : decode cX8_init 52 = .ok (.aload_n 0, 1) := by decide +kernel
theorem dX8_init_53 : decode cX8_init 53 = .ok (.new 34, 3) := by decide +kernel
theorem dX8_init_56 : decode cX8_init 56 = .ok (.dup, 1) := by decide +kernel
theorem dX8_init_57 : decode cX8_init 57 = .ok (.invokespecial 36, 3) := by decide +kernel
theorem dX8_init_60 : decode cX8_init 60 = .ok (.putfield 37, 3) := by decide +kernel
theorem dX8_init_63 : decode cX8_init 63 = .ok (.aload_n 0, 1) := by decide +kernel
theorem dX8_init_64 : decode cX8_init 64 = .ok (.new 41, 3) := by decide +kernel
theorem dX8_init_67 : decode cX8_init 67 = .ok (.dup, 1) := by decide +kernel
theorem dX8_init_68 : decode cX8_init 68 = .ok (.invokespecial 43, 3) := by decide +kernel
theorem dX8_init_71 : decode cX8_init 71 = .ok (.putfield 44, 3) := by decide +kernel
theorem dX8_init_74 : decode cX8_init 74 = .ok (.aload_n 0, 1) := by decide +kernel
theorem dX8_init_75 : decode cX8_init 75 = .ok (.new 48, 3) := by decide +kernel
theorem dX8_init_78 : decode cX8_init 78 = .ok (.dup, 1) := by decide +kernel
theorem dX8_init_79 : decode cX8_init 79 = .ok (.invokespecial 50, 3) := by decide +kernel
theorem dX8_init_82 : decode cX8_init 82 = .ok (.putfield 51, 3) := by decide +kernel
theorem dX8_init_85 : decode cX8_init 85 = .ok (.aload_n 0, 1) := by decide +kernel
theorem dX8_init_86 : decode cX8_init 86 = .ok (.new 55, 3) := by decide +kernel
theorem dX8_init_89 : decode cX8_init 89 = .ok (.dup, 1) := by decide +kernel
theorem dX8_init_90 : decode cX8_init 90 = .ok (.invokespecial 57, 3) := by decide +kernel
theorem dX8_init_93 : decode cX8_init 93 = .ok (.putfield 58, 3) := by decide +kernel
theorem dX8_init_96 : decode cX8_init 96 = .ok (.iconst 0, 1) := by decide +kernel
theorem dX8_init_97 : decode cX8_init 97 = .ok (.istore_n 1, 1) := by decide +kernel
theorem dX8_init_98 : decode cX8_init 98 = .ok (.iload_n 1, 1) := by decide +kernel
theorem dX8_init_99 : decode cX8_init 99 = .ok (.aload_n 0, 1) := by decide +kernel
theorem dX8_init_100 : decode cX8_init 100 = .ok (.getfield 19, 3) := by decide +kernel
theorem dX8_init_103 : decode cX8_init 103 = .ok (.arraylength, 1) := by decide +kernel
theorem dX8_init_104 : decode cX8_init 104 = .ok (.if_icmp .ge 22, 3) := by decide +kernel
theorem dX8_init_107 : decode cX8_init 107 = .ok (.aload_n 0, 1) := by decide +kernel
theorem dX8_init_108 : decode cX8_init 108 = .ok (.getfield 19, 3) := by decide +kernel
theorem dX8_init_111 : decode cX8_init 111 = .ok (.iload_n 1, 1) := by decide +kernel
theorem dX8_init_112 : decode cX8_init 112 = .ok (.new 9, 3) := by decide +kernel
theorem dX8_init_115 : decode cX8_init 115 = .ok (.dup, 1) := by decide +kernel
theorem dX8_init_116 : decode cX8_init 116 = .ok (.invokespecial 11, 3) := by decide +kernel
theorem dX8_init_119 : decode cX8_init 119 = .ok (.aastore, 1) := by decide +kernel
theorem dX8_init_120 : decode cX8_init 120 = .ok (.iinc 1 1, 3) := by decide +kernel
theorem dX8_init_123 : decode cX8_init 123 = .ok (.goto (-25), 3) := by decide +kernel
theorem dX8_init_126 : decode cX8_init 126 = .ok (.return_, 1) := by decide +kernel
theorem dX8_set_0 : decode cX8_set 0 = .ok (.iload_n 1, 1) := by decide +kernel
theorem dX8_set_1 : decode cX8_set 1 = .ok (.ifCond .lt 11, 3) := by decide +kernel
theorem dX8_set_4 : decode cX8_set 4 = .ok (.iload_n 1, 1) := by decide +kernel
theorem dX8_set_5 : decode cX8_set 5 = .ok (.getstatic 62, 3) := by decide +kernel
theorem dX8_set_8 : decode cX8_set 8 = .ok (.arraylength, 1) := by decide +kernel
theorem dX8_set_9 : decode cX8_set 9 = .ok (.if_icmp .lt 6, 3) := by decide +kernel
theorem dX8_set_12 : decode cX8_set 12 = .ok (.bipush (-2), 2) := by decide +kernel
theorem dX8_set_14 : decode cX8_set 14 = .ok (.ireturn, 1) := by decide +kernel
theorem dX8_set_15 : decode cX8_set 15 = .ok (.iload_n 2, 1) := by decide +kernel
theorem dX8_set_16 : decode cX8_set 16 = .ok (.iconst 1, 1) := by decide +kernel
theorem dX8_set_17 : decode cX8_set 17 = .ok (.if_icmp .lt 12, 3) := by decide +kernel
theorem dX8_set_20 : decode cX8_set 20 = .ok (.iload_n 2, 1) := by decide +kernel
theorem dX8_set_21 : decode cX8_set 21 = .ok (.getstatic 62, 3) := by decide +kernel
theorem dX8_set_24 : decode cX8_set 24 = .ok (.iload_n 1, 1) := by decide +kernel
theorem dX8_set_25 : decode cX8_set 25 = .ok (.iaload, 1) := by decide +kernel
theorem dX8_set_26 : decode cX8_set 26 = .ok (.if_icmp .le 6, 3) := by decide +kernel
theorem dX8_set_29 : decode cX8_set 29 = .ok (.bipush (-2), 2) := by decide +kernel
theorem dX8_set_31 : decode cX8_set 31 = .ok (.ireturn, 1) := by decide +kernel
theorem dX8_set_32 : decode cX8_set 32 = .ok (.aload_n 0, 1) := by decide +kernel
theorem dX8_set_33 : decode cX8_set 33 = .ok (.getfield 30, 3) := by decide +kernel
theorem dX8_set_36 : decode cX8_set 36 = .ok (.aload_n 0, 1) := by decide +kernel
theorem dX8_set_37 : decode cX8_set 37 = .ok (.getfield 12, 3) := by decide +kernel
theorem dX8_set_40 : decode cX8_set 40 = .ok (.invokevirtual 66, 3) := by decide +kernel
theorem dX8_set_43 : decode cX8_set 43 = .ok (.aload_n 0, 1) := by decide +kernel
theorem dX8_set_44 : decode cX8_set 44 = .ok (.getfield 12, 3) := by decide +kernel
theorem dX8_set_47 : decode cX8_set 47 = .ok (.iload_n 1, 1) := by decide +kernel
theorem dX8_set_48 : decode cX8_set 48 = .ok (.invokevirtual 70, 3) := by decide +kernel
theorem dX8_set_51 : decode cX8_set 51 = .ok (.istore_n 3, 1) := by decide +kernel
theorem dX8_set_52 : decode cX8_set 52 = .ok (.aload_n 0, 1) := by decide +kernel
theorem dX8_set_53 : decode cX8_set 53 = .ok (.getfield 12, 3) := by decide +kernel
theorem dX8_set_56 : decode cX8_set 56 = .ok (.iload_n 1, 1) := by decide +kernel
theorem dX8_set_57 : decode cX8_set 57 = .ok (.iload_n 2, 1) := by decide +kernel
theorem dX8_set_58 : decode cX8_set 58 = .ok (.invokevirtual 74, 3) := by decide +kernel
theorem dX8_set_61 : decode cX8_set 61 = .ok (.iload_n 3, 1) := by decide +kernel
theorem dX8_set_62 : decode cX8_set 62 = .ok (.ireturn, 1) := by decide +kernel
theorem dX8_read_0 : decode cX8_read 0 = .ok (.aload_n 0, 1) := by decide +kernel
theorem dX8_read_1 : decode cX8_read 1 = .ok (.getfield 37, 3) := by decide +kernel
theorem dX8_read_4 : decode cX8_read 4 = .ok (.invokevirtual 78, 3) := by decide +kernel
theorem dX8_read_7 : decode cX8_read 7 = .ok (.bipush (-6), 2) := by decide +kernel
theorem dX8_read_9 : decode cX8_read 9 = .ok (.if_icmp .eq 6, 3) := by decide +kernel
theorem dX8_read_12 : decode cX8_read 12 = .ok (.bipush (-3), 2) := by decide +kernel
theorem dX8_read_14 : decode cX8_read 14 = .ok (.ireturn, 1) := by decide +kernel
theorem dX8_read_15 : decode cX8_read 15 = .ok (.aload_n 0, 1) := by decide +kernel
theorem dX8_read_16 : decode cX8_read 16 = .ok (.getfield 37, 3) := by decide +kernel
theorem dX8_read_19 : decode cX8_read 19 = .ok (.invokevirtual 82, 3) := by decide +kernel
theorem dX8_read_22 : decode cX8_read 22 = .ok (.iconst 1, 1) := by decide +kernel
theorem dX8_read_23 : decode cX8_read 23 = .ok (.iadd, 1) := by decide +kernel
theorem dX8_read_24 : decode cX8_read 24 = .ok (.sipush 150, 3) := by decide +kernel
theorem dX8_read_27 : decode cX8_read 27 = .ok (.if_icmp .le 6, 3) := by decide +kernel
theorem dX8_read_30 : decode cX8_read 30 = .ok (.bipush (-4), 2) := by decide +kernel
theorem dX8_read_32 : decode cX8_read 32 = .ok (.ireturn, 1) := by decide +kernel
theorem dX8_read_33 : decode cX8_read 33 = .ok (.aload_n 0, 1) := by decide +kernel
theorem dX8_read_34 : decode cX8_read 34 = .ok (.getfield 16, 3) := by decide +kernel
theorem dX8_read_37 : decode cX8_read 37 = .ok (.aload_n 0, 1) := by decide +kernel
theorem dX8_read_38 : decode cX8_read 38 = .ok (.getfield 12, 3) := by decide +kernel
theorem dX8_read_41 : decode cX8_read 41 = .ok (.invokevirtual 85, 3) := by decide +kernel
theorem dX8_read_44 : decode cX8_read 44 = .ok (.aload_n 0, 1) := by decide +kernel
theorem dX8_read_45 : decode cX8_read 45 = .ok (.getfield 16, 3) := by decide +kernel
theorem dX8_read_48 : decode cX8_read 48 = .ok (.invokevirtual 88, 3) := by decide +kernel
theorem dX8_read_51 : decode cX8_read 51 = .ok (.aload_n 0, 1) := by decide +kernel
theorem dX8_read_52 : decode cX8_read 52 = .ok (.getfield 37, 3) := by decide +kernel
theorem dX8_read_55 : decode cX8_read 55 = .ok (.aload_n 0, 1) := by decide +kernel
theorem dX8_read_56 : decode cX8_read 56 = .ok (.getfield 16, 3) := by decide +kernel
theorem dX8_read_59 : decode cX8_read 59 = .ok (.getfield 91, 3) := by decide +kernel
theorem dX8_read_62 : decode cX8_read 62 = .ok (.invokevirtual 95, 3) := by decide +kernel
theorem dX8_read_65 : decode cX8_read 65 = .ok (.ifCond .ne 6, 3) := by decide +kernel
theorem dX8_read_68 : decode cX8_read 68 = .ok (.bipush (-5), 2) := by decide +kernel
theorem dX8_read_70 : decode cX8_read 70 = .ok (.ireturn, 1) := by decide +kernel
theorem dX8_read_71 : decode cX8_read 71 = .ok (.aload_n 0, 1) := by decide +kernel
theorem dX8_read_72 : decode cX8_read 72 = .ok (.getfield 30, 3) := by decide +kernel
theorem dX8_read_75 : decode cX8_read 75 = .ok (.aload_n 0, 1) := by decide +kernel
theorem dX8_read_76 : decode cX8_read 76 = .ok (.getfield 12, 3) := by decide +kernel
theorem dX8_read_79 : decode cX8_read 79 = .ok (.invokevirtual 66, 3) := by decide +kernel
theorem dX8_read_82 : decode cX8_read 82 = .ok (.aload_n 0, 1) := by decide +kernel
theorem dX8_read_83 : decode cX8_read 83 = .ok (.getfield 12, 3) := by decide +kernel
theorem dX8_read_86 : decode cX8_read 86 = .ok (.aload_n 0, 1) := by decide +kernel
theorem dX8_read_87 : decode cX8_read 87 = .ok (.getfield 16, 3) := by decide +kernel
theorem dX8_read_90 : decode cX8_read 90 = .ok (.invokevirtual 85, 3) := by decide +kernel
theorem dX8_read_93 : decode cX8_read 93 = .ok (.aload_n 0, 1) := by decide +kernel
theorem dX8_read_94 : decode cX8_read 94 = .ok (.getfield 37, 3) := by decide +kernel
theorem dX8_read_97 : decode cX8_read 97 = .ok (.invokevirtual 99, 3) := by decide +kernel
theorem dX8_read_100 : decode cX8_read 100 = .ok (.aload_n 0, 1) := by decide +kernel
theorem dX8_read_101 : decode cX8_read 101 = .ok (.getfield 12, 3) := by decide +kernel
theorem dX8_read_104 : decode cX8_read 104 = .ok (.getfield 91, 3) := by decide +kernel
theorem dX8_read_107 : decode cX8_read 107 = .ok (.invokevirtual 102, 3) := by decide +kernel
theorem dX8_read_110 : decode cX8_read 110 = .ok (.ireturn, 1) := by decide +kernel
theorem dX8_dike_0 : decode cX8_dike 0 = .ok (.iload_n 1, 1) := by decide +kernel
theorem dX8_dike_1 : decode cX8_dike 1 = .ok (.iload_n 2, 1) := by decide +kernel
theorem dX8_dike_2 : decode cX8_dike 2 = .ok (.invokestatic 107, 3) := by decide +kernel
theorem dX8_dike_5 : decode cX8_dike 5 = .ok (.istore 4, 2) := by decide +kernel
theorem dX8_dike_7 : decode cX8_dike 7 = .ok (.iload 4, 2) := by decide +kernel
theorem dX8_dike_9 : decode cX8_dike 9 = .ok (.iconst (-1), 1) := by decide +kernel
theorem dX8_dike_10 : decode cX8_dike 10 = .ok (.if_icmp .ne 5, 3) := by decide +kernel
theorem dX8_dike_13 : decode cX8_dike 13 = .ok (.iconst (-1), 1) := by decide +kernel
theorem dX8_dike_14 : decode cX8_dike 14 = .ok (.ireturn, 1) := by decide +kernel
theorem dX8_dike_15 : decode cX8_dike 15 = .ok (.aload_n 0, 1) := by decide +kernel
theorem dX8_dike_16 : decode cX8_dike 16 = .ok (.getfield 12, 3) := by decide +kernel
theorem dX8_dike_19 : decode cX8_dike 19 = .ok (.getfield 91, 3) := by decide +kernel
theorem dX8_dike_22 : decode cX8_dike 22 = .ok (.iload 4, 2) := by decide +kernel
theorem dX8_dike_24 : decode cX8_dike 24 = .ok (.invokevirtual 111, 3) := by decide +kernel
theorem dX8_dike_27 : decode cX8_dike 27 = .ok (.iconst (-1), 1) := by decide +kernel
theorem dX8_dike_28 : decode cX8_dike 28 = .ok (.if_icmp .ne 16, 3) := by decide +kernel
theorem dX8_dike_31 : decode cX8_dike 31 = .ok (.aload_n 0, 1) := by decide +kernel
theorem dX8_dike_32 : decode cX8_dike 32 = .ok (.getfield 12, 3) := by decide +kernel
theorem dX8_dike_35 : decode cX8_dike 35 = .ok (.iload 4, 2) := by decide +kernel
theorem dX8_dike_37 : decode cX8_dike 37 = .ok (.invokevirtual 114, 3) := by decide +kernel
theorem dX8_dike_40 : decode cX8_dike 40 = .ok (.iload_n 3, 1) := by decide +kernel
theorem dX8_dike_41 : decode cX8_dike 41 = .ok (.if_icmp .ne 6, 3) := by decide +kernel
theorem dX8_dike_44 : decode cX8_dike 44 = .ok (.bipush (-5), 2) := by decide +kernel
theorem dX8_dike_46 : decode cX8_dike 46 = .ok (.ireturn, 1) := by decide +kernel
theorem dX8_dike_47 : decode cX8_dike 47 = .ok (.aload_n 0, 1) := by decide +kernel
theorem dX8_dike_48 : decode cX8_dike 48 = .ok (.getfield 30, 3) := by decide +kernel
theorem dX8_dike_51 : decode cX8_dike 51 = .ok (.aload_n 0, 1) := by decide +kernel
theorem dX8_dike_52 : decode cX8_dike 52 = .ok (.getfield 12, 3) := by decide +kernel
theorem dX8_dike_55 : decode cX8_dike 55 = .ok (.invokevirtual 66, 3) := by decide +kernel
theorem dX8_dike_58 : decode cX8_dike 58 = .ok (.aload_n 0, 1) := by decide +kernel
theorem dX8_dike_59 : decode cX8_dike 59 = .ok (.getfield 12, 3) := by decide +kernel
theorem dX8_dike_62 : decode cX8_dike 62 = .ok (.iload 4, 2) := by decide +kernel
theorem dX8_dike_64 : decode cX8_dike 64 = .ok (.iload_n 3, 1) := by decide +kernel
theorem dX8_dike_65 : decode cX8_dike 65 = .ok (.invokevirtual 118, 3) := by decide +kernel
theorem dX8_dike_68 : decode cX8_dike 68 = .ok (.aload_n 0, 1) := by decide +kernel
theorem dX8_dike_69 : decode cX8_dike 69 = .ok (.getfield 12, 3) := by decide +kernel
theorem dX8_dike_72 : decode cX8_dike 72 = .ok (.invokevirtual 122, 3) := by decide +kernel
theorem dX8_dike_75 : decode cX8_dike 75 = .ok (.ireturn, 1) := by decide +kernel
theorem dX8_flood_0 : decode cX8_flood 0 = .ok (.iload_n 1, 1) := by decide +kernel
theorem dX8_flood_1 : decode cX8_flood 1 = .ok (.aload_n 0, 1) := by decide +kernel
theorem dX8_flood_2 : decode cX8_flood 2 = .ok (.getfield 12, 3) := by decide +kernel
theorem dX8_flood_5 : decode cX8_flood 5 = .ok (.getfield 125, 3) := by decide +kernel
theorem dX8_flood_8 : decode cX8_flood 8 = .ok (.if_icmp .lt 10, 3) := by decide +kernel
theorem dX8_flood_11 : decode cX8_flood 11 = .ok (.iload_n 1, 1) := by decide +kernel
theorem dX8_flood_12 : decode cX8_flood 12 = .ok (.sipush 999, 3) := by decide +kernel
theorem dX8_flood_15 : decode cX8_flood 15 = .ok (.if_icmp .le 6, 3) := by decide +kernel
theorem dX8_flood_18 : decode cX8_flood 18 = .ok (.bipush (-2), 2) := by decide +kernel
theorem dX8_flood_20 : decode cX8_flood 20 = .ok (.ireturn, 1) := by decide +kernel
theorem dX8_flood_21 : decode cX8_flood 21 = .ok (.aload_n 0, 1) := by decide +kernel
theorem dX8_flood_22 : decode cX8_flood 22 = .ok (.getfield 12, 3) := by decide +kernel
theorem dX8_flood_25 : decode cX8_flood 25 = .ok (.iload_n 1, 1) := by decide +kernel
theorem dX8_flood_26 : decode cX8_flood 26 = .ok (.invokevirtual 129, 3) := by decide +kernel
theorem dX8_flood_29 : decode cX8_flood 29 = .ok (.iload_n 2, 1) := by decide +kernel
theorem dX8_flood_30 : decode cX8_flood 30 = .ok (.if_icmp .ne 6, 3) := by decide +kernel
theorem dX8_flood_33 : decode cX8_flood 33 = .ok (.bipush (-5), 2) := by decide +kernel
theorem dX8_flood_35 : decode cX8_flood 35 = .ok (.ireturn, 1) := by decide +kernel
theorem dX8_flood_36 : decode cX8_flood 36 = .ok (.iload_n 2, 1) := by decide +kernel
theorem dX8_flood_37 : decode cX8_flood 37 = .ok (.ifCond .eq 18, 3) := by decide +kernel
theorem dX8_flood_40 : decode cX8_flood 40 = .ok (.aload_n 0, 1) := by decide +kernel
theorem dX8_flood_41 : decode cX8_flood 41 = .ok (.getfield 12, 3) := by decide +kernel
theorem dX8_flood_44 : decode cX8_flood 44 = .ok (.getfield 132, 3) := by decide +kernel
theorem dX8_flood_47 : decode cX8_flood 47 = .ok (.bipush 8, 2) := by decide +kernel
theorem dX8_flood_49 : decode cX8_flood 49 = .ok (.if_icmp .lt 6, 3) := by decide +kernel
theorem dX8_flood_52 : decode cX8_flood 52 = .ok (.bipush (-4), 2) := by decide +kernel
theorem dX8_flood_54 : decode cX8_flood 54 = .ok (.ireturn, 1) := by decide +kernel
theorem dX8_flood_55 : decode cX8_flood 55 = .ok (.aload_n 0, 1) := by decide +kernel
theorem dX8_flood_56 : decode cX8_flood 56 = .ok (.getfield 30, 3) := by decide +kernel
theorem dX8_flood_59 : decode cX8_flood 59 = .ok (.aload_n 0, 1) := by decide +kernel
theorem dX8_flood_60 : decode cX8_flood 60 = .ok (.getfield 12, 3) := by decide +kernel
theorem dX8_flood_63 : decode cX8_flood 63 = .ok (.invokevirtual 66, 3) := by decide +kernel
theorem dX8_flood_66 : decode cX8_flood 66 = .ok (.aload_n 0, 1) := by decide +kernel
theorem dX8_flood_67 : decode cX8_flood 67 = .ok (.getfield 12, 3) := by decide +kernel
theorem dX8_flood_70 : decode cX8_flood 70 = .ok (.iload_n 1, 1) := by decide +kernel
theorem dX8_flood_71 : decode cX8_flood 71 = .ok (.iload_n 2, 1) := by decide +kernel
theorem dX8_flood_72 : decode cX8_flood 72 = .ok (.invokevirtual 135, 3) := by decide +kernel
theorem dX8_flood_75 : decode cX8_flood 75 = .ok (.aload_n 0, 1) := by decide +kernel
theorem dX8_flood_76 : decode cX8_flood 76 = .ok (.getfield 12, 3) := by decide +kernel
theorem dX8_flood_79 : decode cX8_flood 79 = .ok (.getfield 132, 3) := by decide +kernel
theorem dX8_flood_82 : decode cX8_flood 82 = .ok (.ireturn, 1) := by decide +kernel
theorem dX8_cut_0 : decode cX8_cut 0 = .ok (.aload_n 0, 1) := by decide +kernel
theorem dX8_cut_1 : decode cX8_cut 1 = .ok (.getfield 58, 3) := by decide +kernel
theorem dX8_cut_4 : decode cX8_cut 4 = .ok (.aload_n 0, 1) := by decide +kernel
theorem dX8_cut_5 : decode cX8_cut 5 = .ok (.getfield 12, 3) := by decide +kernel
theorem dX8_cut_8 : decode cX8_cut 8 = .ok (.getfield 91, 3) := by decide +kernel
theorem dX8_cut_11 : decode cX8_cut 11 = .ok (.iload_n 1, 1) := by decide +kernel
theorem dX8_cut_12 : decode cX8_cut 12 = .ok (.invokevirtual 138, 3) := by decide +kernel
theorem dX8_cut_15 : decode cX8_cut 15 = .ok (.ifCond .ne 5, 3) := by decide +kernel
theorem dX8_cut_18 : decode cX8_cut 18 = .ok (.iconst (-1), 1) := by decide +kernel
theorem dX8_cut_19 : decode cX8_cut 19 = .ok (.ireturn, 1) := by decide +kernel
theorem dX8_cut_20 : decode cX8_cut 20 = .ok (.aload_n 0, 1) := by decide +kernel
theorem dX8_cut_21 : decode cX8_cut 21 = .ok (.getfield 30, 3) := by decide +kernel
theorem dX8_cut_24 : decode cX8_cut 24 = .ok (.aload_n 0, 1) := by decide +kernel
theorem dX8_cut_25 : decode cX8_cut 25 = .ok (.getfield 12, 3) := by decide +kernel
theorem dX8_cut_28 : decode cX8_cut 28 = .ok (.invokevirtual 66, 3) := by decide +kernel
theorem dX8_cut_31 : decode cX8_cut 31 = .ok (.aload_n 0, 1) := by decide +kernel
theorem dX8_cut_32 : decode cX8_cut 32 = .ok (.getfield 12, 3) := by decide +kernel
theorem dX8_cut_35 : decode cX8_cut 35 = .ok (.aload_n 0, 1) := by decide +kernel
theorem dX8_cut_36 : decode cX8_cut 36 = .ok (.getfield 58, 3) := by decide +kernel
theorem dX8_cut_39 : decode cX8_cut 39 = .ok (.getfield 142, 3) := by decide +kernel
theorem dX8_cut_42 : decode cX8_cut 42 = .ok (.aload_n 0, 1) := by decide +kernel
theorem dX8_cut_43 : decode cX8_cut 43 = .ok (.getfield 58, 3) := by decide +kernel
theorem dX8_cut_46 : decode cX8_cut 46 = .ok (.getfield 145, 3) := by decide +kernel
theorem dX8_cut_49 : decode cX8_cut 49 = .ok (.invokevirtual 148, 3) := by decide +kernel
theorem dX8_cut_52 : decode cX8_cut 52 = .ok (.aload_n 0, 1) := by decide +kernel
theorem dX8_cut_53 : decode cX8_cut 53 = .ok (.getfield 12, 3) := by decide +kernel
theorem dX8_cut_56 : decode cX8_cut 56 = .ok (.getfield 91, 3) := by decide +kernel
theorem dX8_cut_59 : decode cX8_cut 59 = .ok (.invokevirtual 102, 3) := by decide +kernel
theorem dX8_cut_62 : decode cX8_cut 62 = .ok (.ireturn, 1) := by decide +kernel
theorem dX8_pass_0 : decode cX8_pass 0 = .ok (.iload_n 1, 1) := by decide +kernel
theorem dX8_pass_1 : decode cX8_pass 1 = .ok (.iconst 1, 1) := by decide +kernel
theorem dX8_pass_2 : decode cX8_pass 2 = .ok (.if_icmp .lt 9, 3) := by decide +kernel
theorem dX8_pass_5 : decode cX8_pass 5 = .ok (.iload_n 1, 1) := by decide +kernel
theorem dX8_pass_6 : decode cX8_pass 6 = .ok (.bipush 50, 2) := by decide +kernel
theorem dX8_pass_8 : decode cX8_pass 8 = .ok (.if_icmp .le 6, 3) := by decide +kernel
theorem dX8_pass_11 : decode cX8_pass 11 = .ok (.bipush (-2), 2) := by decide +kernel
theorem dX8_pass_13 : decode cX8_pass 13 = .ok (.ireturn, 1) := by decide +kernel
theorem dX8_pass_14 : decode cX8_pass 14 = .ok (.aload_n 0, 1) := by decide +kernel
theorem dX8_pass_15 : decode cX8_pass 15 = .ok (.getfield 12, 3) := by decide +kernel
theorem dX8_pass_18 : decode cX8_pass 18 = .ok (.getfield 125, 3) := by decide +kernel
theorem dX8_pass_21 : decode cX8_pass 21 = .ok (.iload_n 1, 1) := by decide +kernel
theorem dX8_pass_22 : decode cX8_pass 22 = .ok (.iadd, 1) := by decide +kernel
theorem dX8_pass_23 : decode cX8_pass 23 = .ok (.sipush 999, 3) := by decide +kernel
theorem dX8_pass_26 : decode cX8_pass 26 = .ok (.if_icmp .le 6, 3) := by decide +kernel
theorem dX8_pass_29 : decode cX8_pass 29 = .ok (.bipush (-4), 2) := by decide +kernel
theorem dX8_pass_31 : decode cX8_pass 31 = .ok (.ireturn, 1) := by decide +kernel
theorem dX8_pass_32 : decode cX8_pass 32 = .ok (.aload_n 0, 1) := by decide +kernel
theorem dX8_pass_33 : decode cX8_pass 33 = .ok (.getfield 30, 3) := by decide +kernel
theorem dX8_pass_36 : decode cX8_pass 36 = .ok (.aload_n 0, 1) := by decide +kernel
theorem dX8_pass_37 : decode cX8_pass 37 = .ok (.getfield 12, 3) := by decide +kernel
theorem dX8_pass_40 : decode cX8_pass 40 = .ok (.invokevirtual 66, 3) := by decide +kernel
theorem dX8_pass_43 : decode cX8_pass 43 = .ok (.aload_n 0, 1) := by decide +kernel
theorem dX8_pass_44 : decode cX8_pass 44 = .ok (.getfield 12, 3) := by decide +kernel
theorem dX8_pass_47 : decode cX8_pass 47 = .ok (.getfield 151, 3) := by decide +kernel
theorem dX8_pass_50 : decode cX8_pass 50 = .ok (.istore_n 2, 1) := by decide +kernel
theorem dX8_pass_51 : decode cX8_pass 51 = .ok (.iconst 0, 1) := by decide +kernel
theorem dX8_pass_52 : decode cX8_pass 52 = .ok (.istore_n 3, 1) := by decide +kernel
theorem dX8_pass_53 : decode cX8_pass 53 = .ok (.iload_n 3, 1) := by decide +kernel
theorem dX8_pass_54 : decode cX8_pass 54 = .ok (.iload_n 1, 1) := by decide +kernel
theorem dX8_pass_55 : decode cX8_pass 55 = .ok (.if_icmp .ge 20, 3) := by decide +kernel
theorem dX8_pass_58 : decode cX8_pass 58 = .ok (.aload_n 0, 1) := by decide +kernel
theorem dX8_pass_59 : decode cX8_pass 59 = .ok (.getfield 44, 3) := by decide +kernel
theorem dX8_pass_62 : decode cX8_pass 62 = .ok (.aload_n 0, 1) := by decide +kernel
theorem dX8_pass_63 : decode cX8_pass 63 = .ok (.getfield 12, 3) := by decide +kernel
theorem dX8_pass_66 : decode cX8_pass 66 = .ok (.invokevirtual 154, 3) := by decide +kernel
theorem dX8_pass_69 : decode cX8_pass 69 = .ok (.iinc 3 1, 3) := by decide +kernel
theorem dX8_pass_72 : decode cX8_pass 72 = .ok (.goto (-19), 3) := by decide +kernel
theorem dX8_pass_75 : decode cX8_pass 75 = .ok (.aload_n 0, 1) := by decide +kernel
theorem dX8_pass_76 : decode cX8_pass 76 = .ok (.getfield 12, 3) := by decide +kernel
theorem dX8_pass_79 : decode cX8_pass 79 = .ok (.getfield 151, 3) := by decide +kernel
theorem dX8_pass_82 : decode cX8_pass 82 = .ok (.iload_n 2, 1) := by decide +kernel
theorem dX8_pass_83 : decode cX8_pass 83 = .ok (.isub, 1) := by decide +kernel
theorem dX8_pass_84 : decode cX8_pass 84 = .ok (.ireturn, 1) := by decide +kernel
theorem dX8_cell_0 : decode cX8_cell 0 = .ok (.iload_n 1, 1) := by decide +kernel
theorem dX8_cell_1 : decode cX8_cell 1 = .ok (.iload_n 2, 1) := by decide +kernel
theorem dX8_cell_2 : decode cX8_cell 2 = .ok (.invokestatic 107, 3) := by decide +kernel
theorem dX8_cell_5 : decode cX8_cell 5 = .ok (.istore 4, 2) := by decide +kernel
theorem dX8_cell_7 : decode cX8_cell 7 = .ok (.iload 4, 2) := by decide +kernel
theorem dX8_cell_9 : decode cX8_cell 9 = .ok (.iconst (-1), 1) := by decide +kernel
theorem dX8_cell_10 : decode cX8_cell 10 = .ok (.if_icmp .ne 5, 3) := by decide +kernel
theorem dX8_cell_13 : decode cX8_cell 13 = .ok (.iconst (-1), 1) := by decide +kernel
theorem dX8_cell_14 : decode cX8_cell 14 = .ok (.ireturn, 1) := by decide +kernel
theorem dX8_cell_15 : decode cX8_cell 15 = .ok (.iload_n 3, 1) := by decide +kernel
theorem dX8_cell_16 : decode cX8_cell 16 = .ok (.tableswitch 87 0 3 #[32, 48, 58, 71], 32) := by decide +kernel
theorem dX8_cell_48 : decode cX8_cell 48 = .ok (.aload_n 0, 1) := by decide +kernel
theorem dX8_cell_49 : decode cX8_cell 49 = .ok (.getfield 12, 3) := by decide +kernel
theorem dX8_cell_52 : decode cX8_cell 52 = .ok (.getfield 91, 3) := by decide +kernel
theorem dX8_cell_55 : decode cX8_cell 55 = .ok (.iload 4, 2) := by decide +kernel
theorem dX8_cell_57 : decode cX8_cell 57 = .ok (.invokevirtual 111, 3) := by decide +kernel
theorem dX8_cell_60 : decode cX8_cell 60 = .ok (.invokestatic 157, 3) := by decide +kernel
theorem dX8_cell_63 : decode cX8_cell 63 = .ok (.ireturn, 1) := by decide +kernel
theorem dX8_cell_64 : decode cX8_cell 64 = .ok (.aload_n 0, 1) := by decide +kernel
theorem dX8_cell_65 : decode cX8_cell 65 = .ok (.getfield 12, 3) := by decide +kernel
theorem dX8_cell_68 : decode cX8_cell 68 = .ok (.iload 4, 2) := by decide +kernel
theorem dX8_cell_70 : decode cX8_cell 70 = .ok (.invokevirtual 160, 3) := by decide +kernel
theorem dX8_cell_73 : decode cX8_cell 73 = .ok (.ireturn, 1) := by decide +kernel
theorem dX8_cell_74 : decode cX8_cell 74 = .ok (.aload_n 0, 1) := by decide +kernel
theorem dX8_cell_75 : decode cX8_cell 75 = .ok (.getfield 12, 3) := by decide +kernel
theorem dX8_cell_78 : decode cX8_cell 78 = .ok (.iload 4, 2) := by decide +kernel
theorem dX8_cell_80 : decode cX8_cell 80 = .ok (.invokevirtual 114, 3) := by decide +kernel
theorem dX8_cell_83 : decode cX8_cell 83 = .ok (.invokestatic 163, 3) := by decide +kernel
theorem dX8_cell_86 : decode cX8_cell 86 = .ok (.ireturn, 1) := by decide +kernel
theorem dX8_cell_87 : decode cX8_cell 87 = .ok (.aload_n 0, 1) := by decide +kernel
theorem dX8_cell_88 : decode cX8_cell 88 = .ok (.getfield 12, 3) := by decide +kernel
theorem dX8_cell_91 : decode cX8_cell 91 = .ok (.getfield 167, 3) := by decide +kernel
theorem dX8_cell_94 : decode cX8_cell 94 = .ok (.iload 4, 2) := by decide +kernel
theorem dX8_cell_96 : decode cX8_cell 96 = .ok (.invokevirtual 171, 3) := by decide +kernel
theorem dX8_cell_99 : decode cX8_cell 99 = .ok (.invokestatic 157, 3) := by decide +kernel
theorem dX8_cell_102 : decode cX8_cell 102 = .ok (.ireturn, 1) := by decide +kernel
theorem dX8_cell_103 : decode cX8_cell 103 = .ok (.bipush (-2), 2) := by decide +kernel
theorem dX8_cell_105 : decode cX8_cell 105 = .ok (.ireturn, 1) := by decide +kernel
theorem dX8_course_0 : decode cX8_course 0 = .ok (.aload_n 0, 1) := by decide +kernel
theorem dX8_course_1 : decode cX8_course 1 = .ok (.getfield 12, 3) := by decide +kernel
theorem dX8_course_4 : decode cX8_course 4 = .ok (.getfield 91, 3) := by decide +kernel
theorem dX8_course_7 : decode cX8_course 7 = .ok (.iload_n 1, 1) := by decide +kernel
theorem dX8_course_8 : decode cX8_course 8 = .ok (.invokevirtual 176, 3) := by decide +kernel
theorem dX8_course_11 : decode cX8_course 11 = .ok (.istore_n 3, 1) := by decide +kernel
theorem dX8_course_12 : decode cX8_course 12 = .ok (.iload_n 3, 1) := by decide +kernel
theorem dX8_course_13 : decode cX8_course 13 = .ok (.iconst (-1), 1) := by decide +kernel
theorem dX8_course_14 : decode cX8_course 14 = .ok (.if_icmp .ne 5, 3) := by decide +kernel
theorem dX8_course_17 : decode cX8_course 17 = .ok (.iconst (-1), 1) := by decide +kernel
theorem dX8_course_18 : decode cX8_course 18 = .ok (.ireturn, 1) := by decide +kernel
theorem dX8_course_19 : decode cX8_course 19 = .ok (.iload_n 2, 1) := by decide +kernel
theorem dX8_course_20 : decode cX8_course 20 = .ok (.tableswitch 53 0 2 #[28, 33, 38], 28) := by decide +kernel
theorem dX8_course_48 : decode cX8_course 48 = .ok (.iload_n 3, 1) := by decide +kernel
theorem dX8_course_49 : decode cX8_course 49 = .ok (.bipush 20, 2) := by decide +kernel
theorem dX8_course_51 : decode cX8_course 51 = .ok (.irem, 1) := by decide +kernel
theorem dX8_course_52 : decode cX8_course 52 = .ok (.ireturn, 1) := by decide +kernel
theorem dX8_course_53 : decode cX8_course 53 = .ok (.iload_n 3, 1) := by decide +kernel
theorem dX8_course_54 : decode cX8_course 54 = .ok (.bipush 20, 2) := by decide +kernel
theorem dX8_course_56 : decode cX8_course 56 = .ok (.idiv, 1) := by decide +kernel
theorem dX8_course_57 : decode cX8_course 57 = .ok (.ireturn, 1) := by decide +kernel
theorem dX8_course_58 : decode cX8_course 58 = .ok (.aload_n 0, 1) := by decide +kernel
theorem dX8_course_59 : decode cX8_course 59 = .ok (.getfield 12, 3) := by decide +kernel
theorem dX8_course_62 : decode cX8_course 62 = .ok (.getfield 91, 3) := by decide +kernel
theorem dX8_course_65 : decode cX8_course 65 = .ok (.iload_n 1, 1) := by decide +kernel
theorem dX8_course_66 : decode cX8_course 66 = .ok (.invokevirtual 179, 3) := by decide +kernel
theorem dX8_course_69 : decode cX8_course 69 = .ok (.invokestatic 157, 3) := by decide +kernel
theorem dX8_course_72 : decode cX8_course 72 = .ok (.ireturn, 1) := by decide +kernel
theorem dX8_course_73 : decode cX8_course 73 = .ok (.bipush (-2), 2) := by decide +kernel
theorem dX8_course_75 : decode cX8_course 75 = .ok (.ireturn, 1) := by decide +kernel
theorem dX8_bend_0 : decode cX8_bend 0 = .ok (.aload_n 0, 1) := by decide +kernel
theorem dX8_bend_1 : decode cX8_bend 1 = .ok (.getfield 51, 3) := by decide +kernel
theorem dX8_bend_4 : decode cX8_bend 4 = .ok (.aload_n 0, 1) := by decide +kernel
theorem dX8_bend_5 : decode cX8_bend 5 = .ok (.getfield 12, 3) := by decide +kernel
theorem dX8_bend_8 : decode cX8_bend 8 = .ok (.getfield 91, 3) := by decide +kernel
theorem dX8_bend_11 : decode cX8_bend 11 = .ok (.iload_n 1, 1) := by decide +kernel
theorem dX8_bend_12 : decode cX8_bend 12 = .ok (.invokevirtual 182, 3) := by decide +kernel
theorem dX8_bend_15 : decode cX8_bend 15 = .ok (.ifCond .ne 5, 3) := by decide +kernel
theorem dX8_bend_18 : decode cX8_bend 18 = .ok (.iconst (-1), 1) := by decide +kernel
theorem dX8_bend_19 : decode cX8_bend 19 = .ok (.ireturn, 1) := by decide +kernel
theorem dX8_bend_20 : decode cX8_bend 20 = .ok (.iload_n 2, 1) := by decide +kernel
theorem dX8_bend_21 : decode cX8_bend 21 = .ok (.tableswitch 124 0 5 #[39, 47, 55, 63, 78, 109], 39) := by decide +kernel
theorem dX8_bend_60 : decode cX8_bend 60 = .ok (.aload_n 0, 1) := by decide +kernel
theorem dX8_bend_61 : decode cX8_bend 61 = .ok (.getfield 51, 3) := by decide +kernel
theorem dX8_bend_64 : decode cX8_bend 64 = .ok (.getfield 183, 3) := by decide +kernel
theorem dX8_bend_67 : decode cX8_bend 67 = .ok (.ireturn, 1) := by decide +kernel
theorem dX8_bend_68 : decode cX8_bend 68 = .ok (.aload_n 0, 1) := by decide +kernel
theorem dX8_bend_69 : decode cX8_bend 69 = .ok (.getfield 51, 3) := by decide +kernel
theorem dX8_bend_72 : decode cX8_bend 72 = .ok (.getfield 186, 3) := by decide +kernel
theorem dX8_bend_75 : decode cX8_bend 75 = .ok (.ireturn, 1) := by decide +kernel
theorem dX8_bend_76 : decode cX8_bend 76 = .ok (.aload_n 0, 1) := by decide +kernel
theorem dX8_bend_77 : decode cX8_bend 77 = .ok (.getfield 51, 3) := by decide +kernel
theorem dX8_bend_80 : decode cX8_bend 80 = .ok (.getfield 189, 3) := by decide +kernel
theorem dX8_bend_83 : decode cX8_bend 83 = .ok (.ireturn, 1) := by decide +kernel
theorem dX8_bend_84 : decode cX8_bend 84 = .ok (.aload_n 0, 1) := by decide +kernel
theorem dX8_bend_85 : decode cX8_bend 85 = .ok (.getfield 12, 3) := by decide +kernel
theorem dX8_bend_88 : decode cX8_bend 88 = .ok (.aload_n 0, 1) := by decide +kernel
theorem dX8_bend_89 : decode cX8_bend 89 = .ok (.getfield 51, 3) := by decide +kernel
theorem dX8_bend_92 : decode cX8_bend 92 = .ok (.invokevirtual 192, 3) := by decide +kernel
theorem dX8_bend_95 : decode cX8_bend 95 = .ok (.invokestatic 163, 3) := by decide +kernel
theorem dX8_bend_98 : decode cX8_bend 98 = .ok (.ireturn, 1) := by decide +kernel
theorem dX8_bend_99 : decode cX8_bend 99 = .ok (.aload_n 0, 1) := by decide +kernel
theorem dX8_bend_100 : decode cX8_bend 100 = .ok (.getfield 12, 3) := by decide +kernel
theorem dX8_bend_103 : decode cX8_bend 103 = .ok (.aload_n 0, 1) := by decide +kernel
theorem dX8_bend_104 : decode cX8_bend 104 = .ok (.getfield 51, 3) := by decide +kernel
theorem dX8_bend_107 : decode cX8_bend 107 = .ok (.invokevirtual 192, 3) := by decide +kernel
theorem dX8_bend_110 : decode cX8_bend 110 = .ok (.ifCond .eq 8, 3) := by decide +kernel
theorem dX8_bend_113 : decode cX8_bend 113 = .ok (.bipush (-6), 2) := by decide +kernel
theorem dX8_bend_115 : decode cX8_bend 115 = .ok (.goto 14, 3) := by decide +kernel
theorem dX8_bend_118 : decode cX8_bend 118 = .ok (.aload_n 0, 1) := by decide +kernel
theorem dX8_bend_119 : decode cX8_bend 119 = .ok (.getfield 12, 3) := by decide +kernel
theorem dX8_bend_122 : decode cX8_bend 122 = .ok (.aload_n 0, 1) := by decide +kernel
theorem dX8_bend_123 : decode cX8_bend 123 = .ok (.getfield 51, 3) := by decide +kernel
theorem dX8_bend_126 : decode cX8_bend 126 = .ok (.invokevirtual 196, 3) := by decide +kernel
theorem dX8_bend_129 : decode cX8_bend 129 = .ok (.ireturn, 1) := by decide +kernel
theorem dX8_bend_130 : decode cX8_bend 130 = .ok (.aload_n 0, 1) := by decide +kernel
theorem dX8_bend_131 : decode cX8_bend 131 = .ok (.getfield 12, 3) := by decide +kernel
theorem dX8_bend_134 : decode cX8_bend 134 = .ok (.aload_n 0, 1) := by decide +kernel
theorem dX8_bend_135 : decode cX8_bend 135 = .ok (.getfield 51, 3) := by decide +kernel
theorem dX8_bend_138 : decode cX8_bend 138 = .ok (.invokevirtual 200, 3) := by decide +kernel
theorem dX8_bend_141 : decode cX8_bend 141 = .ok (.invokestatic 163, 3) := by decide +kernel
theorem dX8_bend_144 : decode cX8_bend 144 = .ok (.ireturn, 1) := by decide +kernel
theorem dX8_bend_145 : decode cX8_bend 145 = .ok (.bipush (-2), 2) := by decide +kernel
theorem dX8_bend_147 : decode cX8_bend 147 = .ok (.ireturn, 1) := by decide +kernel
theorem dX8_neck_0 : decode cX8_neck 0 = .ok (.aload_n 0, 1) := by decide +kernel
theorem dX8_neck_1 : decode cX8_neck 1 = .ok (.getfield 58, 3) := by decide +kernel
theorem dX8_neck_4 : decode cX8_neck 4 = .ok (.aload_n 0, 1) := by decide +kernel
theorem dX8_neck_5 : decode cX8_neck 5 = .ok (.getfield 12, 3) := by decide +kernel
theorem dX8_neck_8 : decode cX8_neck 8 = .ok (.getfield 91, 3) := by decide +kernel
theorem dX8_neck_11 : decode cX8_neck 11 = .ok (.iload_n 1, 1) := by decide +kernel
theorem dX8_neck_12 : decode cX8_neck 12 = .ok (.invokevirtual 138, 3) := by decide +kernel
theorem dX8_neck_15 : decode cX8_neck 15 = .ok (.ifCond .ne 5, 3) := by decide +kernel
theorem dX8_neck_18 : decode cX8_neck 18 = .ok (.iconst (-1), 1) := by decide +kernel
theorem dX8_neck_19 : decode cX8_neck 19 = .ok (.ireturn, 1) := by decide +kernel
theorem dX8_neck_20 : decode cX8_neck 20 = .ok (.iload_n 2, 1) := by decide +kernel
theorem dX8_neck_21 : decode cX8_neck 21 = .ok (.tableswitch 65 0 2 #[27, 35, 43], 27) := by decide +kernel
theorem dX8_neck_48 : decode cX8_neck 48 = .ok (.aload_n 0, 1) := by decide +kernel
theorem dX8_neck_49 : decode cX8_neck 49 = .ok (.getfield 58, 3) := by decide +kernel
theorem dX8_neck_52 : decode cX8_neck 52 = .ok (.getfield 142, 3) := by decide +kernel
theorem dX8_neck_55 : decode cX8_neck 55 = .ok (.ireturn, 1) := by decide +kernel
theorem dX8_neck_56 : decode cX8_neck 56 = .ok (.aload_n 0, 1) := by decide +kernel
theorem dX8_neck_57 : decode cX8_neck 57 = .ok (.getfield 58, 3) := by decide +kernel
theorem dX8_neck_60 : decode cX8_neck 60 = .ok (.getfield 145, 3) := by decide +kernel
theorem dX8_neck_63 : decode cX8_neck 63 = .ok (.ireturn, 1) := by decide +kernel
theorem dX8_neck_64 : decode cX8_neck 64 = .ok (.aload_n 0, 1) := by decide +kernel
theorem dX8_neck_65 : decode cX8_neck 65 = .ok (.getfield 12, 3) := by decide +kernel
theorem dX8_neck_68 : decode cX8_neck 68 = .ok (.aload_n 0, 1) := by decide +kernel
theorem dX8_neck_69 : decode cX8_neck 69 = .ok (.getfield 58, 3) := by decide +kernel
theorem dX8_neck_72 : decode cX8_neck 72 = .ok (.getfield 142, 3) := by decide +kernel
theorem dX8_neck_75 : decode cX8_neck 75 = .ok (.aload_n 0, 1) := by decide +kernel
theorem dX8_neck_76 : decode cX8_neck 76 = .ok (.getfield 58, 3) := by decide +kernel
theorem dX8_neck_79 : decode cX8_neck 79 = .ok (.getfield 145, 3) := by decide +kernel
theorem dX8_neck_82 : decode cX8_neck 82 = .ok (.invokevirtual 203, 3) := by decide +kernel
theorem dX8_neck_85 : decode cX8_neck 85 = .ok (.ireturn, 1) := by decide +kernel
theorem dX8_neck_86 : decode cX8_neck 86 = .ok (.bipush (-2), 2) := by decide +kernel
theorem dX8_neck_88 : decode cX8_neck 88 = .ok (.ireturn, 1) := by decide +kernel
theorem dX8_oxbow_0 : decode cX8_oxbow 0 = .ok (.aload_n 0, 1) := by decide +kernel
theorem dX8_oxbow_1 : decode cX8_oxbow 1 = .ok (.getfield 12, 3) := by decide +kernel
theorem dX8_oxbow_4 : decode cX8_oxbow 4 = .ok (.getfield 167, 3) := by decide +kernel
theorem dX8_oxbow_7 : decode cX8_oxbow 7 = .ok (.iload_n 1, 1) := by decide +kernel
theorem dX8_oxbow_8 : decode cX8_oxbow 8 = .ok (.invokevirtual 206, 3) := by decide +kernel
theorem dX8_oxbow_11 : decode cX8_oxbow 11 = .ok (.ifCond .ne 5, 3) := by decide +kernel
theorem dX8_oxbow_14 : decode cX8_oxbow 14 = .ok (.iconst (-1), 1) := by decide +kernel
theorem dX8_oxbow_15 : decode cX8_oxbow 15 = .ok (.ireturn, 1) := by decide +kernel
theorem dX8_oxbow_16 : decode cX8_oxbow 16 = .ok (.iload_n 2, 1) := by decide +kernel
theorem dX8_oxbow_17 : decode cX8_oxbow 17 = .ok (.tableswitch 85 0 3 #[31, 43, 55, 70], 31) := by decide +kernel
theorem dX8_oxbow_48 : decode cX8_oxbow 48 = .ok (.aload_n 0, 1) := by decide +kernel
theorem dX8_oxbow_49 : decode cX8_oxbow 49 = .ok (.getfield 12, 3) := by decide +kernel
theorem dX8_oxbow_52 : decode cX8_oxbow 52 = .ok (.getfield 167, 3) := by decide +kernel
theorem dX8_oxbow_55 : decode cX8_oxbow 55 = .ok (.iload_n 1, 1) := by decide +kernel
theorem dX8_oxbow_56 : decode cX8_oxbow 56 = .ok (.invokevirtual 209, 3) := by decide +kernel
theorem dX8_oxbow_59 : decode cX8_oxbow 59 = .ok (.ireturn, 1) := by decide +kernel
theorem dX8_oxbow_60 : decode cX8_oxbow 60 = .ok (.aload_n 0, 1) := by decide +kernel
theorem dX8_oxbow_61 : decode cX8_oxbow 61 = .ok (.getfield 12, 3) := by decide +kernel
theorem dX8_oxbow_64 : decode cX8_oxbow 64 = .ok (.getfield 167, 3) := by decide +kernel
theorem dX8_oxbow_67 : decode cX8_oxbow 67 = .ok (.iload_n 1, 1) := by decide +kernel
theorem dX8_oxbow_68 : decode cX8_oxbow 68 = .ok (.invokevirtual 212, 3) := by decide +kernel
theorem dX8_oxbow_71 : decode cX8_oxbow 71 = .ok (.ireturn, 1) := by decide +kernel
theorem dX8_oxbow_72 : decode cX8_oxbow 72 = .ok (.aload_n 0, 1) := by decide +kernel
theorem dX8_oxbow_73 : decode cX8_oxbow 73 = .ok (.getfield 12, 3) := by decide +kernel
theorem dX8_oxbow_76 : decode cX8_oxbow 76 = .ok (.getfield 167, 3) := by decide +kernel
theorem dX8_oxbow_79 : decode cX8_oxbow 79 = .ok (.iload_n 1, 1) := by decide +kernel
theorem dX8_oxbow_80 : decode cX8_oxbow 80 = .ok (.invokevirtual 215, 3) := by decide +kernel
theorem dX8_oxbow_83 : decode cX8_oxbow 83 = .ok (.bipush 20, 2) := by decide +kernel
theorem dX8_oxbow_85 : decode cX8_oxbow 85 = .ok (.irem, 1) := by decide +kernel
theorem dX8_oxbow_86 : decode cX8_oxbow 86 = .ok (.ireturn, 1) := by decide +kernel
theorem dX8_oxbow_87 : decode cX8_oxbow 87 = .ok (.aload_n 0, 1) := by decide +kernel
theorem dX8_oxbow_88 : decode cX8_oxbow 88 = .ok (.getfield 12, 3) := by decide +kernel
theorem dX8_oxbow_91 : decode cX8_oxbow 91 = .ok (.getfield 167, 3) := by decide +kernel
theorem dX8_oxbow_94 : decode cX8_oxbow 94 = .ok (.iload_n 1, 1) := by decide +kernel
theorem dX8_oxbow_95 : decode cX8_oxbow 95 = .ok (.invokevirtual 215, 3) := by decide +kernel
theorem dX8_oxbow_98 : decode cX8_oxbow 98 = .ok (.bipush 20, 2) := by decide +kernel
theorem dX8_oxbow_100 : decode cX8_oxbow 100 = .ok (.idiv, 1) := by decide +kernel
theorem dX8_oxbow_101 : decode cX8_oxbow 101 = .ok (.ireturn, 1) := by decide +kernel
theorem dX8_oxbow_102 : decode cX8_oxbow 102 = .ok (.bipush (-2), 2) := by decide +kernel
theorem dX8_oxbow_104 : decode cX8_oxbow 104 = .ok (.ireturn, 1) := by decide +kernel
theorem dX8_count_0 : decode cX8_count 0 = .ok (.iload_n 1, 1) := by decide +kernel
theorem dX8_count_1 : decode cX8_count 1 = .ok (.tableswitch 213 0 17 #[87, 98, 104, 110, 115, 126, 134, 142, 150, 158, 166, 177, 185, 185, 185, 185, 197, 205], 87) := by decide +kernel
theorem dX8_count_88 : decode cX8_count 88 = .ok (.aload_n 0, 1) := by decide +kernel
theorem dX8_count_89 : decode cX8_count 89 = .ok (.getfield 12, 3) := by decide +kernel
theorem dX8_count_92 : decode cX8_count 92 = .ok (.getfield 91, 3) := by decide +kernel
theorem dX8_count_95 : decode cX8_count 95 = .ok (.invokevirtual 102, 3) := by decide +kernel
theorem dX8_count_98 : decode cX8_count 98 = .ok (.ireturn, 1) := by decide +kernel
theorem dX8_count_99 : decode cX8_count 99 = .ok (.aload_n 0, 1) := by decide +kernel
theorem dX8_count_100 : decode cX8_count 100 = .ok (.iconst 0, 1) := by decide +kernel
theorem dX8_count_101 : decode cX8_count 101 = .ok (.invokevirtual 218, 3) := by decide +kernel
theorem dX8_count_104 : decode cX8_count 104 = .ok (.ireturn, 1) := by decide +kernel
theorem dX8_count_105 : decode cX8_count 105 = .ok (.aload_n 0, 1) := by decide +kernel
theorem dX8_count_106 : decode cX8_count 106 = .ok (.iconst 1, 1) := by decide +kernel
theorem dX8_count_107 : decode cX8_count 107 = .ok (.invokevirtual 218, 3) := by decide +kernel
theorem dX8_count_110 : decode cX8_count 110 = .ok (.ireturn, 1) := by decide +kernel
theorem dX8_count_111 : decode cX8_count 111 = .ok (.aload_n 0, 1) := by decide +kernel
theorem dX8_count_112 : decode cX8_count 112 = .ok (.invokevirtual 221, 3) := by decide +kernel
theorem dX8_count_115 : decode cX8_count 115 = .ok (.ireturn, 1) := by decide +kernel
theorem dX8_count_116 : decode cX8_count 116 = .ok (.aload_n 0, 1) := by decide +kernel
theorem dX8_count_117 : decode cX8_count 117 = .ok (.getfield 12, 3) := by decide +kernel
theorem dX8_count_120 : decode cX8_count 120 = .ok (.getfield 167, 3) := by decide +kernel
theorem dX8_count_123 : decode cX8_count 123 = .ok (.invokevirtual 224, 3) := by decide +kernel
theorem dX8_count_126 : decode cX8_count 126 = .ok (.ireturn, 1) := by decide +kernel
theorem dX8_count_127 : decode cX8_count 127 = .ok (.aload_n 0, 1) := by decide +kernel
theorem dX8_count_128 : decode cX8_count 128 = .ok (.getfield 12, 3) := by decide +kernel
theorem dX8_count_131 : decode cX8_count 131 = .ok (.getfield 125, 3) := by decide +kernel
theorem dX8_count_134 : decode cX8_count 134 = .ok (.ireturn, 1) := by decide +kernel
theorem dX8_count_135 : decode cX8_count 135 = .ok (.aload_n 0, 1) := by decide +kernel
theorem dX8_count_136 : decode cX8_count 136 = .ok (.getfield 12, 3) := by decide +kernel
theorem dX8_count_139 : decode cX8_count 139 = .ok (.getfield 132, 3) := by decide +kernel
theorem dX8_count_142 : decode cX8_count 142 = .ok (.ireturn, 1) := by decide +kernel
theorem dX8_count_143 : decode cX8_count 143 = .ok (.aload_n 0, 1) := by decide +kernel
theorem dX8_count_144 : decode cX8_count 144 = .ok (.getfield 12, 3) := by decide +kernel
theorem dX8_count_147 : decode cX8_count 147 = .ok (.invokevirtual 122, 3) := by decide +kernel
theorem dX8_count_150 : decode cX8_count 150 = .ok (.ireturn, 1) := by decide +kernel
theorem dX8_count_151 : decode cX8_count 151 = .ok (.aload_n 0, 1) := by decide +kernel
theorem dX8_count_152 : decode cX8_count 152 = .ok (.getfield 12, 3) := by decide +kernel
theorem dX8_count_155 : decode cX8_count 155 = .ok (.getfield 151, 3) := by decide +kernel
theorem dX8_count_158 : decode cX8_count 158 = .ok (.ireturn, 1) := by decide +kernel
theorem dX8_count_159 : decode cX8_count 159 = .ok (.aload_n 0, 1) := by decide +kernel
theorem dX8_count_160 : decode cX8_count 160 = .ok (.getfield 12, 3) := by decide +kernel
theorem dX8_count_163 : decode cX8_count 163 = .ok (.getfield 225, 3) := by decide +kernel
theorem dX8_count_166 : decode cX8_count 166 = .ok (.ireturn, 1) := by decide +kernel
theorem dX8_count_167 : decode cX8_count 167 = .ok (.aload_n 0, 1) := by decide +kernel
theorem dX8_count_168 : decode cX8_count 168 = .ok (.getfield 12, 3) := by decide +kernel
theorem dX8_count_171 : decode cX8_count 171 = .ok (.getfield 91, 3) := by decide +kernel
theorem dX8_count_174 : decode cX8_count 174 = .ok (.invokevirtual 228, 3) := by decide +kernel
theorem dX8_count_177 : decode cX8_count 177 = .ok (.ireturn, 1) := by decide +kernel
theorem dX8_count_178 : decode cX8_count 178 = .ok (.aload_n 0, 1) := by decide +kernel
theorem dX8_count_179 : decode cX8_count 179 = .ok (.getfield 12, 3) := by decide +kernel
theorem dX8_count_182 : decode cX8_count 182 = .ok (.invokevirtual 231, 3) := by decide +kernel
theorem dX8_count_185 : decode cX8_count 185 = .ok (.ireturn, 1) := by decide +kernel
theorem dX8_count_186 : decode cX8_count 186 = .ok (.aload_n 0, 1) := by decide +kernel
theorem dX8_count_187 : decode cX8_count 187 = .ok (.getfield 12, 3) := by decide +kernel
theorem dX8_count_190 : decode cX8_count 190 = .ok (.iload_n 1, 1) := by decide +kernel
theorem dX8_count_191 : decode cX8_count 191 = .ok (.bipush 12, 2) := by decide +kernel
theorem dX8_count_193 : decode cX8_count 193 = .ok (.isub, 1) := by decide +kernel
theorem dX8_count_194 : decode cX8_count 194 = .ok (.invokevirtual 70, 3) := by decide +kernel
theorem dX8_count_197 : decode cX8_count 197 = .ok (.ireturn, 1) := by decide +kernel
theorem dX8_count_198 : decode cX8_count 198 = .ok (.aload_n 0, 1) := by decide +kernel
theorem dX8_count_199 : decode cX8_count 199 = .ok (.getfield 37, 3) := by decide +kernel
theorem dX8_count_202 : decode cX8_count 202 = .ok (.invokevirtual 234, 3) := by decide +kernel
theorem dX8_count_205 : decode cX8_count 205 = .ok (.ireturn, 1) := by decide +kernel
theorem dX8_count_206 : decode cX8_count 206 = .ok (.aload_n 0, 1) := by decide +kernel
theorem dX8_count_207 : decode cX8_count 207 = .ok (.getfield 30, 3) := by decide +kernel
theorem dX8_count_210 : decode cX8_count 210 = .ok (.invokevirtual 235, 3) := by decide +kernel
theorem dX8_count_213 : decode cX8_count 213 = .ok (.ireturn, 1) := by decide +kernel
theorem dX8_count_214 : decode cX8_count 214 = .ok (.bipush (-2), 2) := by decide +kernel
theorem dX8_count_216 : decode cX8_count 216 = .ok (.ireturn, 1) := by decide +kernel
theorem dX8_isFlood_0 : decode cX8_isFlood 0 = .ok (.iload_n 1, 1) := by decide +kernel
theorem dX8_isFlood_1 : decode cX8_isFlood 1 = .ok (.ifCond .lt 10, 3) := by decide +kernel
theorem dX8_isFlood_4 : decode cX8_isFlood 4 = .ok (.iload_n 1, 1) := by decide +kernel
theorem dX8_isFlood_5 : decode cX8_isFlood 5 = .ok (.sipush 999, 3) := by decide +kernel
theorem dX8_isFlood_8 : decode cX8_isFlood 8 = .ok (.if_icmp .le 6, 3) := by decide +kernel
theorem dX8_isFlood_11 : decode cX8_isFlood 11 = .ok (.bipush (-2), 2) := by decide +kernel
theorem dX8_isFlood_13 : decode cX8_isFlood 13 = .ok (.ireturn, 1) := by decide +kernel
theorem dX8_isFlood_14 : decode cX8_isFlood 14 = .ok (.aload_n 0, 1) := by decide +kernel
theorem dX8_isFlood_15 : decode cX8_isFlood 15 = .ok (.getfield 12, 3) := by decide +kernel
theorem dX8_isFlood_18 : decode cX8_isFlood 18 = .ok (.iload_n 1, 1) := by decide +kernel
theorem dX8_isFlood_19 : decode cX8_isFlood 19 = .ok (.invokevirtual 129, 3) := by decide +kernel
theorem dX8_isFlood_22 : decode cX8_isFlood 22 = .ok (.invokestatic 163, 3) := by decide +kernel
theorem dX8_isFlood_25 : decode cX8_isFlood 25 = .ok (.ireturn, 1) := by decide +kernel
theorem dX8_ifPassed_0 : decode cX8_ifPassed 0 = .ok (.iload_n 1, 1) := by decide +kernel
theorem dX8_ifPassed_1 : decode cX8_ifPassed 1 = .ok (.iconst 1, 1) := by decide +kernel
theorem dX8_ifPassed_2 : decode cX8_ifPassed 2 = .ok (.if_icmp .lt 18, 3) := by decide +kernel
theorem dX8_ifPassed_5 : decode cX8_ifPassed 5 = .ok (.iload_n 1, 1) := by decide +kernel
theorem dX8_ifPassed_6 : decode cX8_ifPassed 6 = .ok (.bipush 50, 2) := by decide +kernel
theorem dX8_ifPassed_8 : decode cX8_ifPassed 8 = .ok (.if_icmp .gt 12, 3) := by decide +kernel
theorem dX8_ifPassed_11 : decode cX8_ifPassed 11 = .ok (.iload_n 2, 1) := by decide +kernel
theorem dX8_ifPassed_12 : decode cX8_ifPassed 12 = .ok (.ifCond .lt 8, 3) := by decide +kernel
theorem dX8_ifPassed_15 : decode cX8_ifPassed 15 = .ok (.iload_n 2, 1) := by decide +kernel
theorem dX8_ifPassed_16 : decode cX8_ifPassed 16 = .ok (.iconst 3, 1) := by decide +kernel
theorem dX8_ifPassed_17 : decode cX8_ifPassed 17 = .ok (.if_icmp .le 6, 3) := by decide +kernel
theorem dX8_ifPassed_20 : decode cX8_ifPassed 20 = .ok (.bipush (-2), 2) := by decide +kernel
theorem dX8_ifPassed_22 : decode cX8_ifPassed 22 = .ok (.ireturn, 1) := by decide +kernel
theorem dX8_ifPassed_23 : decode cX8_ifPassed 23 = .ok (.aload_n 0, 1) := by decide +kernel
theorem dX8_ifPassed_24 : decode cX8_ifPassed 24 = .ok (.getfield 16, 3) := by decide +kernel
theorem dX8_ifPassed_27 : decode cX8_ifPassed 27 = .ok (.aload_n 0, 1) := by decide +kernel
theorem dX8_ifPassed_28 : decode cX8_ifPassed 28 = .ok (.getfield 12, 3) := by decide +kernel
theorem dX8_ifPassed_31 : decode cX8_ifPassed 31 = .ok (.invokevirtual 85, 3) := by decide +kernel
theorem dX8_ifPassed_34 : decode cX8_ifPassed 34 = .ok (.iconst 0, 1) := by decide +kernel
theorem dX8_ifPassed_35 : decode cX8_ifPassed 35 = .ok (.istore_n 3, 1) := by decide +kernel
theorem dX8_ifPassed_36 : decode cX8_ifPassed 36 = .ok (.iload_n 3, 1) := by decide +kernel
theorem dX8_ifPassed_37 : decode cX8_ifPassed 37 = .ok (.iload_n 1, 1) := by decide +kernel
theorem dX8_ifPassed_38 : decode cX8_ifPassed 38 = .ok (.if_icmp .ge 20, 3) := by decide +kernel
theorem dX8_ifPassed_41 : decode cX8_ifPassed 41 = .ok (.aload_n 0, 1) := by decide +kernel
theorem dX8_ifPassed_42 : decode cX8_ifPassed 42 = .ok (.getfield 44, 3) := by decide +kernel
theorem dX8_ifPassed_45 : decode cX8_ifPassed 45 = .ok (.aload_n 0, 1) := by decide +kernel
theorem dX8_ifPassed_46 : decode cX8_ifPassed 46 = .ok (.getfield 16, 3) := by decide +kernel
theorem dX8_ifPassed_49 : decode cX8_ifPassed 49 = .ok (.invokevirtual 154, 3) := by decide +kernel
theorem dX8_ifPassed_52 : decode cX8_ifPassed 52 = .ok (.iinc 3 1, 3) := by decide +kernel
theorem dX8_ifPassed_55 : decode cX8_ifPassed 55 = .ok (.goto (-19), 3) := by decide +kernel
theorem dX8_ifPassed_58 : decode cX8_ifPassed 58 = .ok (.iload_n 2, 1) := by decide +kernel
theorem dX8_ifPassed_59 : decode cX8_ifPassed 59 = .ok (.tableswitch 68 0 2 #[25, 41, 57], 25) := by decide +kernel
theorem dX8_ifPassed_84 : decode cX8_ifPassed 84 = .ok (.aload_n 0, 1) := by decide +kernel
theorem dX8_ifPassed_85 : decode cX8_ifPassed 85 = .ok (.getfield 16, 3) := by decide +kernel
theorem dX8_ifPassed_88 : decode cX8_ifPassed 88 = .ok (.getfield 151, 3) := by decide +kernel
theorem dX8_ifPassed_91 : decode cX8_ifPassed 91 = .ok (.aload_n 0, 1) := by decide +kernel
theorem dX8_ifPassed_92 : decode cX8_ifPassed 92 = .ok (.getfield 12, 3) := by decide +kernel
theorem dX8_ifPassed_95 : decode cX8_ifPassed 95 = .ok (.getfield 151, 3) := by decide +kernel
theorem dX8_ifPassed_98 : decode cX8_ifPassed 98 = .ok (.isub, 1) := by decide +kernel
theorem dX8_ifPassed_99 : decode cX8_ifPassed 99 = .ok (.ireturn, 1) := by decide +kernel
theorem dX8_ifPassed_100 : decode cX8_ifPassed 100 = .ok (.aload_n 0, 1) := by decide +kernel
theorem dX8_ifPassed_101 : decode cX8_ifPassed 101 = .ok (.getfield 16, 3) := by decide +kernel
theorem dX8_ifPassed_104 : decode cX8_ifPassed 104 = .ok (.getfield 225, 3) := by decide +kernel
theorem dX8_ifPassed_107 : decode cX8_ifPassed 107 = .ok (.aload_n 0, 1) := by decide +kernel
theorem dX8_ifPassed_108 : decode cX8_ifPassed 108 = .ok (.getfield 12, 3) := by decide +kernel
theorem dX8_ifPassed_111 : decode cX8_ifPassed 111 = .ok (.getfield 225, 3) := by decide +kernel
theorem dX8_ifPassed_114 : decode cX8_ifPassed 114 = .ok (.isub, 1) := by decide +kernel
theorem dX8_ifPassed_115 : decode cX8_ifPassed 115 = .ok (.ireturn, 1) := by decide +kernel
theorem dX8_ifPassed_116 : decode cX8_ifPassed 116 = .ok (.aload_n 0, 1) := by decide +kernel
theorem dX8_ifPassed_117 : decode cX8_ifPassed 117 = .ok (.getfield 16, 3) := by decide +kernel
theorem dX8_ifPassed_120 : decode cX8_ifPassed 120 = .ok (.getfield 91, 3) := by decide +kernel
theorem dX8_ifPassed_123 : decode cX8_ifPassed 123 = .ok (.invokevirtual 102, 3) := by decide +kernel
theorem dX8_ifPassed_126 : decode cX8_ifPassed 126 = .ok (.ireturn, 1) := by decide +kernel
theorem dX8_ifPassed_127 : decode cX8_ifPassed 127 = .ok (.aload_n 0, 1) := by decide +kernel
theorem dX8_ifPassed_128 : decode cX8_ifPassed 128 = .ok (.getfield 16, 3) := by decide +kernel
theorem dX8_ifPassed_131 : decode cX8_ifPassed 131 = .ok (.getfield 167, 3) := by decide +kernel
theorem dX8_ifPassed_134 : decode cX8_ifPassed 134 = .ok (.invokevirtual 224, 3) := by decide +kernel
theorem dX8_ifPassed_137 : decode cX8_ifPassed 137 = .ok (.ireturn, 1) := by decide +kernel
theorem dX8_nextCut_0 : decode cX8_nextCut 0 = .ok (.iload_n 1, 1) := by decide +kernel
theorem dX8_nextCut_1 : decode cX8_nextCut 1 = .ok (.ifCond .eq 11, 3) := by decide +kernel
theorem dX8_nextCut_4 : decode cX8_nextCut 4 = .ok (.iload_n 1, 1) := by decide +kernel
theorem dX8_nextCut_5 : decode cX8_nextCut 5 = .ok (.iconst 1, 1) := by decide +kernel
theorem dX8_nextCut_6 : decode cX8_nextCut 6 = .ok (.if_icmp .eq 6, 3) := by decide +kernel
theorem dX8_nextCut_9 : decode cX8_nextCut 9 = .ok (.bipush (-2), 2) := by decide +kernel
theorem dX8_nextCut_11 : decode cX8_nextCut 11 = .ok (.ireturn, 1) := by decide +kernel
theorem dX8_nextCut_12 : decode cX8_nextCut 12 = .ok (.aload_n 0, 1) := by decide +kernel
theorem dX8_nextCut_13 : decode cX8_nextCut 13 = .ok (.getfield 16, 3) := by decide +kernel
theorem dX8_nextCut_16 : decode cX8_nextCut 16 = .ok (.aload_n 0, 1) := by decide +kernel
theorem dX8_nextCut_17 : decode cX8_nextCut 17 = .ok (.getfield 12, 3) := by decide +kernel
theorem dX8_nextCut_20 : decode cX8_nextCut 20 = .ok (.invokevirtual 85, 3) := by decide +kernel
theorem dX8_nextCut_23 : decode cX8_nextCut 23 = .ok (.iconst 0, 1) := by decide +kernel
theorem dX8_nextCut_24 : decode cX8_nextCut 24 = .ok (.istore_n 2, 1) := by decide +kernel
theorem dX8_nextCut_25 : decode cX8_nextCut 25 = .ok (.iload_n 2, 1) := by decide +kernel
theorem dX8_nextCut_26 : decode cX8_nextCut 26 = .ok (.bipush 60, 2) := by decide +kernel
theorem dX8_nextCut_28 : decode cX8_nextCut 28 = .ok (.if_icmp .ge 46, 3) := by decide +kernel
theorem dX8_nextCut_31 : decode cX8_nextCut 31 = .ok (.aload_n 0, 1) := by decide +kernel
theorem dX8_nextCut_32 : decode cX8_nextCut 32 = .ok (.getfield 44, 3) := by decide +kernel
theorem dX8_nextCut_35 : decode cX8_nextCut 35 = .ok (.aload_n 0, 1) := by decide +kernel
theorem dX8_nextCut_36 : decode cX8_nextCut 36 = .ok (.getfield 16, 3) := by decide +kernel
theorem dX8_nextCut_39 : decode cX8_nextCut 39 = .ok (.invokevirtual 154, 3) := by decide +kernel
theorem dX8_nextCut_42 : decode cX8_nextCut 42 = .ok (.aload_n 0, 1) := by decide +kernel
theorem dX8_nextCut_43 : decode cX8_nextCut 43 = .ok (.getfield 44, 3) := by decide +kernel
theorem dX8_nextCut_46 : decode cX8_nextCut 46 = .ok (.getfield 236, 3) := by decide +kernel
theorem dX8_nextCut_49 : decode cX8_nextCut 49 = .ok (.ifCond .le 19, 3) := by decide +kernel
theorem dX8_nextCut_52 : decode cX8_nextCut 52 = .ok (.iload_n 1, 1) := by decide +kernel
theorem dX8_nextCut_53 : decode cX8_nextCut 53 = .ok (.ifCond .ne 7, 3) := by decide +kernel
theorem dX8_nextCut_56 : decode cX8_nextCut 56 = .ok (.iload_n 2, 1) := by decide +kernel
theorem dX8_nextCut_57 : decode cX8_nextCut 57 = .ok (.goto 10, 3) := by decide +kernel
theorem dX8_nextCut_60 : decode cX8_nextCut 60 = .ok (.aload_n 0, 1) := by decide +kernel
theorem dX8_nextCut_61 : decode cX8_nextCut 61 = .ok (.getfield 44, 3) := by decide +kernel
theorem dX8_nextCut_64 : decode cX8_nextCut 64 = .ok (.getfield 236, 3) := by decide +kernel
theorem dX8_nextCut_67 : decode cX8_nextCut 67 = .ok (.ireturn, 1) := by decide +kernel
theorem dX8_nextCut_68 : decode cX8_nextCut 68 = .ok (.iinc 2 1, 3) := by decide +kernel
theorem dX8_nextCut_71 : decode cX8_nextCut 71 = .ok (.goto (-46), 3) := by decide +kernel
theorem dX8_nextCut_74 : decode cX8_nextCut 74 = .ok (.bipush (-6), 2) := by decide +kernel
theorem dX8_nextCut_76 : decode cX8_nextCut 76 = .ok (.ireturn, 1) := by decide +kernel
theorem dX8_taken_0 : decode cX8_taken 0 = .ok (.iload_n 1, 1) := by decide +kernel
theorem dX8_taken_1 : decode cX8_taken 1 = .ok (.iload_n 2, 1) := by decide +kernel
theorem dX8_taken_2 : decode cX8_taken 2 = .ok (.invokestatic 107, 3) := by decide +kernel
theorem dX8_taken_5 : decode cX8_taken 5 = .ok (.istore_n 3, 1) := by decide +kernel
theorem dX8_taken_6 : decode cX8_taken 6 = .ok (.iload_n 3, 1) := by decide +kernel
theorem dX8_taken_7 : decode cX8_taken 7 = .ok (.iconst (-1), 1) := by decide +kernel
theorem dX8_taken_8 : decode cX8_taken 8 = .ok (.if_icmp .ne 5, 3) := by decide +kernel
theorem dX8_taken_11 : decode cX8_taken 11 = .ok (.iconst (-1), 1) := by decide +kernel
theorem dX8_taken_12 : decode cX8_taken 12 = .ok (.ireturn, 1) := by decide +kernel
theorem dX8_taken_13 : decode cX8_taken 13 = .ok (.aload_n 0, 1) := by decide +kernel
theorem dX8_taken_14 : decode cX8_taken 14 = .ok (.getfield 12, 3) := by decide +kernel
theorem dX8_taken_17 : decode cX8_taken 17 = .ok (.getfield 91, 3) := by decide +kernel
theorem dX8_taken_20 : decode cX8_taken 20 = .ok (.iload_n 3, 1) := by decide +kernel
theorem dX8_taken_21 : decode cX8_taken 21 = .ok (.invokevirtual 111, 3) := by decide +kernel
theorem dX8_taken_24 : decode cX8_taken 24 = .ok (.iconst (-1), 1) := by decide +kernel
theorem dX8_taken_25 : decode cX8_taken 25 = .ok (.if_icmp .eq 6, 3) := by decide +kernel
theorem dX8_taken_28 : decode cX8_taken 28 = .ok (.bipush (-6), 2) := by decide +kernel
theorem dX8_taken_30 : decode cX8_taken 30 = .ok (.ireturn, 1) := by decide +kernel
theorem dX8_taken_31 : decode cX8_taken 31 = .ok (.aload_n 0, 1) := by decide +kernel
theorem dX8_taken_32 : decode cX8_taken 32 = .ok (.getfield 16, 3) := by decide +kernel
theorem dX8_taken_35 : decode cX8_taken 35 = .ok (.aload_n 0, 1) := by decide +kernel
theorem dX8_taken_36 : decode cX8_taken 36 = .ok (.getfield 12, 3) := by decide +kernel
theorem dX8_taken_39 : decode cX8_taken 39 = .ok (.invokevirtual 85, 3) := by decide +kernel
theorem dX8_taken_42 : decode cX8_taken 42 = .ok (.aload_n 0, 1) := by decide +kernel
theorem dX8_taken_43 : decode cX8_taken 43 = .ok (.getfield 44, 3) := by decide +kernel
theorem dX8_taken_46 : decode cX8_taken 46 = .ok (.iload_n 3, 1) := by decide +kernel
theorem dX8_taken_47 : decode cX8_taken 47 = .ok (.invokevirtual 239, 3) := by decide +kernel
theorem dX8_taken_50 : decode cX8_taken 50 = .ok (.iconst 0, 1) := by decide +kernel
theorem dX8_taken_51 : decode cX8_taken 51 = .ok (.istore 4, 2) := by decide +kernel
theorem dX8_taken_53 : decode cX8_taken 53 = .ok (.iload 4, 2) := by decide +kernel
theorem dX8_taken_55 : decode cX8_taken 55 = .ok (.bipush 60, 2) := by decide +kernel
theorem dX8_taken_57 : decode cX8_taken 57 = .ok (.if_icmp .ge 33, 3) := by decide +kernel
theorem dX8_taken_60 : decode cX8_taken 60 = .ok (.aload_n 0, 1) := by decide +kernel
theorem dX8_taken_61 : decode cX8_taken 61 = .ok (.getfield 44, 3) := by decide +kernel
theorem dX8_taken_64 : decode cX8_taken 64 = .ok (.aload_n 0, 1) := by decide +kernel
theorem dX8_taken_65 : decode cX8_taken 65 = .ok (.getfield 16, 3) := by decide +kernel
theorem dX8_taken_68 : decode cX8_taken 68 = .ok (.invokevirtual 154, 3) := by decide +kernel
theorem dX8_taken_71 : decode cX8_taken 71 = .ok (.aload_n 0, 1) := by decide +kernel
theorem dX8_taken_72 : decode cX8_taken 72 = .ok (.getfield 44, 3) := by decide +kernel
theorem dX8_taken_75 : decode cX8_taken 75 = .ok (.getfield 243, 3) := by decide +kernel
theorem dX8_taken_78 : decode cX8_taken 78 = .ok (.ifCond .eq 6, 3) := by decide +kernel
theorem dX8_taken_81 : decode cX8_taken 81 = .ok (.iload 4, 2) := by decide +kernel
theorem dX8_taken_83 : decode cX8_taken 83 = .ok (.ireturn, 1) := by decide +kernel
theorem dX8_taken_84 : decode cX8_taken 84 = .ok (.iinc 4 1, 3) := by decide +kernel
theorem dX8_taken_87 : decode cX8_taken 87 = .ok (.goto (-34), 3) := by decide +kernel
theorem dX8_taken_90 : decode cX8_taken 90 = .ok (.bipush (-6), 2) := by decide +kernel
theorem dX8_taken_92 : decode cX8_taken 92 = .ok (.ireturn, 1) := by decide +kernel
theorem dX8_put_0 : decode cX8_put 0 = .ok (.lload_n 1, 1) := by decide +kernel
theorem dX8_put_1 : decode cX8_put 1 = .ok (.invokestatic 247, 3) := by decide +kernel
theorem dX8_put_4 : decode cX8_put 4 = .ok (.istore_n 3, 1) := by decide +kernel
theorem dX8_put_5 : decode cX8_put 5 = .ok (.iload_n 3, 1) := by decide +kernel
theorem dX8_put_6 : decode cX8_put 6 = .ok (.ifCond .ne 6, 3) := by decide +kernel
theorem dX8_put_9 : decode cX8_put 9 = .ok (.bipush (-2), 2) := by decide +kernel
theorem dX8_put_11 : decode cX8_put 11 = .ok (.ireturn, 1) := by decide +kernel
theorem dX8_put_12 : decode cX8_put 12 = .ok (.aload_n 0, 1) := by decide +kernel
theorem dX8_put_13 : decode cX8_put 13 = .ok (.getfield 37, 3) := by decide +kernel
theorem dX8_put_16 : decode cX8_put 16 = .ok (.iload_n 3, 1) := by decide +kernel
theorem dX8_put_17 : decode cX8_put 17 = .ok (.invokevirtual 250, 3) := by decide +kernel
theorem dX8_put_20 : decode cX8_put 20 = .ok (.ifCond .ne 6, 3) := by decide +kernel
theorem dX8_put_23 : decode cX8_put 23 = .ok (.bipush (-4), 2) := by decide +kernel
theorem dX8_put_25 : decode cX8_put 25 = .ok (.ireturn, 1) := by decide +kernel
theorem dX8_put_26 : decode cX8_put 26 = .ok (.aload_n 0, 1) := by decide +kernel
theorem dX8_put_27 : decode cX8_put 27 = .ok (.getfield 37, 3) := by decide +kernel
theorem dX8_put_30 : decode cX8_put 30 = .ok (.lload_n 1, 1) := by decide +kernel
theorem dX8_put_31 : decode cX8_put 31 = .ok (.iload_n 3, 1) := by decide +kernel
theorem dX8_put_32 : decode cX8_put 32 = .ok (.invokevirtual 253, 3) := by decide +kernel
theorem dX8_put_35 : decode cX8_put 35 = .ok (.aload_n 0, 1) := by decide +kernel
theorem dX8_put_36 : decode cX8_put 36 = .ok (.getfield 37, 3) := by decide +kernel
theorem dX8_put_39 : decode cX8_put 39 = .ok (.invokevirtual 234, 3) := by decide +kernel
theorem dX8_put_42 : decode cX8_put 42 = .ok (.ireturn, 1) := by decide +kernel
theorem dX8_wipe_0 : decode cX8_wipe 0 = .ok (.aload_n 0, 1) := by decide +kernel
theorem dX8_wipe_1 : decode cX8_wipe 1 = .ok (.getfield 37, 3) := by decide +kernel
theorem dX8_wipe_4 : decode cX8_wipe 4 = .ok (.invokevirtual 234, 3) := by decide +kernel
theorem dX8_wipe_7 : decode cX8_wipe 7 = .ok (.istore_n 1, 1) := by decide +kernel
theorem dX8_wipe_8 : decode cX8_wipe 8 = .ok (.aload_n 0, 1) := by decide +kernel
theorem dX8_wipe_9 : decode cX8_wipe 9 = .ok (.getfield 37, 3) := by decide +kernel
theorem dX8_wipe_12 : decode cX8_wipe 12 = .ok (.invokevirtual 99, 3) := by decide +kernel
theorem dX8_wipe_15 : decode cX8_wipe 15 = .ok (.iload_n 1, 1) := by decide +kernel
theorem dX8_wipe_16 : decode cX8_wipe 16 = .ok (.ireturn, 1) := by decide +kernel
theorem dX8_fault_0 : decode cX8_fault 0 = .ok (.aload_n 0, 1) := by decide +kernel
theorem dX8_fault_1 : decode cX8_fault 1 = .ok (.getfield 37, 3) := by decide +kernel
theorem dX8_fault_4 : decode cX8_fault 4 = .ok (.invokevirtual 78, 3) := by decide +kernel
theorem dX8_fault_7 : decode cX8_fault 7 = .ok (.ireturn, 1) := by decide +kernel
theorem dX8_undo_0 : decode cX8_undo 0 = .ok (.aload_n 0, 1) := by decide +kernel
theorem dX8_undo_1 : decode cX8_undo 1 = .ok (.getfield 30, 3) := by decide +kernel
theorem dX8_undo_4 : decode cX8_undo 4 = .ok (.aload_n 0, 1) := by decide +kernel
theorem dX8_undo_5 : decode cX8_undo 5 = .ok (.getfield 12, 3) := by decide +kernel
theorem dX8_undo_8 : decode cX8_undo 8 = .ok (.invokevirtual 257, 3) := by decide +kernel
theorem dX8_undo_11 : decode cX8_undo 11 = .ok (.ifCond .ne 6, 3) := by decide +kernel
theorem dX8_undo_14 : decode cX8_undo 14 = .ok (.bipush (-5), 2) := by decide +kernel
theorem dX8_undo_16 : decode cX8_undo 16 = .ok (.ireturn, 1) := by decide +kernel
theorem dX8_undo_17 : decode cX8_undo 17 = .ok (.aload_n 0, 1) := by decide +kernel
theorem dX8_undo_18 : decode cX8_undo 18 = .ok (.getfield 30, 3) := by decide +kernel
theorem dX8_undo_21 : decode cX8_undo 21 = .ok (.invokevirtual 235, 3) := by decide +kernel
theorem dX8_undo_24 : decode cX8_undo 24 = .ok (.ireturn, 1) := by decide +kernel
theorem dX8_save_0 : decode cX8_save 0 = .ok (.iload_n 1, 1) := by decide +kernel
theorem dX8_save_1 : decode cX8_save 1 = .ok (.ifCond .lt 30, 3) := by decide +kernel
theorem dX8_save_4 : decode cX8_save 4 = .ok (.iload_n 1, 1) := by decide +kernel
theorem dX8_save_5 : decode cX8_save 5 = .ok (.aload_n 0, 1) := by decide +kernel
theorem dX8_save_6 : decode cX8_save 6 = .ok (.getfield 19, 3) := by decide +kernel
theorem dX8_save_9 : decode cX8_save 9 = .ok (.arraylength, 1) := by decide +kernel
theorem dX8_save_10 : decode cX8_save 10 = .ok (.if_icmp .ge 21, 3) := by decide +kernel
theorem dX8_save_13 : decode cX8_save 13 = .ok (.iload_n 1, 1) := by decide +kernel
theorem dX8_save_14 : decode cX8_save 14 = .ok (.aload_n 0, 1) := by decide +kernel
theorem dX8_save_15 : decode cX8_save 15 = .ok (.getfield 23, 3) := by decide +kernel
theorem dX8_save_18 : decode cX8_save 18 = .ok (.arraylength, 1) := by decide +kernel
theorem dX8_save_19 : decode cX8_save 19 = .ok (.if_icmp .ge 12, 3) := by decide +kernel
theorem dX8_save_22 : decode cX8_save 22 = .ok (.aload_n 0, 1) := by decide +kernel
theorem dX8_save_23 : decode cX8_save 23 = .ok (.getfield 19, 3) := by decide +kernel
theorem dX8_save_26 : decode cX8_save 26 = .ok (.iload_n 1, 1) := by decide +kernel
theorem dX8_save_27 : decode cX8_save 27 = .ok (.aaload, 1) := by decide +kernel
theorem dX8_save_28 : decode cX8_save 28 = .ok (.ifnonnull 6, 3) := by decide +kernel
theorem dX8_save_31 : decode cX8_save 31 = .ok (.bipush (-2), 2) := by decide +kernel
theorem dX8_save_33 : decode cX8_save 33 = .ok (.ireturn, 1) := by decide +kernel
theorem dX8_save_34 : decode cX8_save 34 = .ok (.aload_n 0, 1) := by decide +kernel
theorem dX8_save_35 : decode cX8_save 35 = .ok (.getfield 19, 3) := by decide +kernel
theorem dX8_save_38 : decode cX8_save 38 = .ok (.iload_n 1, 1) := by decide +kernel
theorem dX8_save_39 : decode cX8_save 39 = .ok (.aaload, 1) := by decide +kernel
theorem dX8_save_40 : decode cX8_save 40 = .ok (.aload_n 0, 1) := by decide +kernel
theorem dX8_save_41 : decode cX8_save 41 = .ok (.getfield 12, 3) := by decide +kernel
theorem dX8_save_44 : decode cX8_save 44 = .ok (.invokevirtual 85, 3) := by decide +kernel
theorem dX8_save_47 : decode cX8_save 47 = .ok (.aload_n 0, 1) := by decide +kernel
theorem dX8_save_48 : decode cX8_save 48 = .ok (.getfield 23, 3) := by decide +kernel
theorem dX8_save_51 : decode cX8_save 51 = .ok (.iload_n 1, 1) := by decide +kernel
theorem dX8_save_52 : decode cX8_save 52 = .ok (.iconst 1, 1) := by decide +kernel
theorem dX8_save_53 : decode cX8_save 53 = .ok (.bastore, 1) := by decide +kernel
theorem dX8_save_54 : decode cX8_save 54 = .ok (.aload_n 0, 1) := by decide +kernel
theorem dX8_save_55 : decode cX8_save 55 = .ok (.getfield 12, 3) := by decide +kernel
theorem dX8_save_58 : decode cX8_save 58 = .ok (.getfield 91, 3) := by decide +kernel
theorem dX8_save_61 : decode cX8_save 61 = .ok (.invokevirtual 102, 3) := by decide +kernel
theorem dX8_save_64 : decode cX8_save 64 = .ok (.ireturn, 1) := by decide +kernel
theorem dX8_restore_0 : decode cX8_restore 0 = .ok (.iload_n 1, 1) := by decide +kernel
theorem dX8_restore_1 : decode cX8_restore 1 = .ok (.ifCond .lt 30, 3) := by decide +kernel
theorem dX8_restore_4 : decode cX8_restore 4 = .ok (.iload_n 1, 1) := by decide +kernel
theorem dX8_restore_5 : decode cX8_restore 5 = .ok (.aload_n 0, 1) := by decide +kernel
theorem dX8_restore_6 : decode cX8_restore 6 = .ok (.getfield 19, 3) := by decide +kernel
theorem dX8_restore_9 : decode cX8_restore 9 = .ok (.arraylength, 1) := by decide +kernel
theorem dX8_restore_10 : decode cX8_restore 10 = .ok (.if_icmp .ge 21, 3) := by decide +kernel
theorem dX8_restore_13 : decode cX8_restore 13 = .ok (.iload_n 1, 1) := by decide +kernel
theorem dX8_restore_14 : decode cX8_restore 14 = .ok (.aload_n 0, 1) := by decide +kernel
theorem dX8_restore_15 : decode cX8_restore 15 = .ok (.getfield 23, 3) := by decide +kernel
theorem dX8_restore_18 : decode cX8_restore 18 = .ok (.arraylength, 1) := by decide +kernel
theorem dX8_restore_19 : decode cX8_restore 19 = .ok (.if_icmp .ge 12, 3) := by decide +kernel
theorem dX8_restore_22 : decode cX8_restore 22 = .ok (.aload_n 0, 1) := by decide +kernel
theorem dX8_restore_23 : decode cX8_restore 23 = .ok (.getfield 19, 3) := by decide +kernel
theorem dX8_restore_26 : decode cX8_restore 26 = .ok (.iload_n 1, 1) := by decide +kernel
theorem dX8_restore_27 : decode cX8_restore 27 = .ok (.aaload, 1) := by decide +kernel
theorem dX8_restore_28 : decode cX8_restore 28 = .ok (.ifnonnull 6, 3) := by decide +kernel
theorem dX8_restore_31 : decode cX8_restore 31 = .ok (.bipush (-2), 2) := by decide +kernel
theorem dX8_restore_33 : decode cX8_restore 33 = .ok (.ireturn, 1) := by decide +kernel
theorem dX8_restore_34 : decode cX8_restore 34 = .ok (.aload_n 0, 1) := by decide +kernel
theorem dX8_restore_35 : decode cX8_restore 35 = .ok (.getfield 23, 3) := by decide +kernel
theorem dX8_restore_38 : decode cX8_restore 38 = .ok (.iload_n 1, 1) := by decide +kernel
theorem dX8_restore_39 : decode cX8_restore 39 = .ok (.baload, 1) := by decide +kernel
theorem dX8_restore_40 : decode cX8_restore 40 = .ok (.ifCond .ne 6, 3) := by decide +kernel
theorem dX8_restore_43 : decode cX8_restore 43 = .ok (.bipush (-5), 2) := by decide +kernel
theorem dX8_restore_45 : decode cX8_restore 45 = .ok (.ireturn, 1) := by decide +kernel
theorem dX8_restore_46 : decode cX8_restore 46 = .ok (.aload_n 0, 1) := by decide +kernel
theorem dX8_restore_47 : decode cX8_restore 47 = .ok (.getfield 30, 3) := by decide +kernel
theorem dX8_restore_50 : decode cX8_restore 50 = .ok (.aload_n 0, 1) := by decide +kernel
theorem dX8_restore_51 : decode cX8_restore 51 = .ok (.getfield 12, 3) := by decide +kernel
theorem dX8_restore_54 : decode cX8_restore 54 = .ok (.invokevirtual 66, 3) := by decide +kernel
theorem dX8_restore_57 : decode cX8_restore 57 = .ok (.aload_n 0, 1) := by decide +kernel
theorem dX8_restore_58 : decode cX8_restore 58 = .ok (.getfield 12, 3) := by decide +kernel
theorem dX8_restore_61 : decode cX8_restore 61 = .ok (.aload_n 0, 1) := by decide +kernel
theorem dX8_restore_62 : decode cX8_restore 62 = .ok (.getfield 19, 3) := by decide +kernel
theorem dX8_restore_65 : decode cX8_restore 65 = .ok (.iload_n 1, 1) := by decide +kernel
theorem dX8_restore_66 : decode cX8_restore 66 = .ok (.aaload, 1) := by decide +kernel
theorem dX8_restore_67 : decode cX8_restore 67 = .ok (.invokevirtual 85, 3) := by decide +kernel
theorem dX8_restore_70 : decode cX8_restore 70 = .ok (.aload_n 0, 1) := by decide +kernel
theorem dX8_restore_71 : decode cX8_restore 71 = .ok (.getfield 12, 3) := by decide +kernel
theorem dX8_restore_74 : decode cX8_restore 74 = .ok (.getfield 91, 3) := by decide +kernel
theorem dX8_restore_77 : decode cX8_restore 77 = .ok (.invokevirtual 102, 3) := by decide +kernel
theorem dX8_restore_80 : decode cX8_restore 80 = .ok (.ireturn, 1) := by decide +kernel
theorem dX8_countBends_0 : decode cX8_countBends 0 = .ok (.iconst 0, 1) := by decide +kernel
theorem dX8_countBends_1 : decode cX8_countBends 1 = .ok (.istore_n 2, 1) := by decide +kernel
theorem dX8_countBends_2 : decode cX8_countBends 2 = .ok (.iconst 0, 1) := by decide +kernel
theorem dX8_countBends_3 : decode cX8_countBends 3 = .ok (.istore_n 3, 1) := by decide +kernel
theorem dX8_countBends_4 : decode cX8_countBends 4 = .ok (.iconst 0, 1) := by decide +kernel
theorem dX8_countBends_5 : decode cX8_countBends 5 = .ok (.istore 4, 2) := by decide +kernel
theorem dX8_countBends_7 : decode cX8_countBends 7 = .ok (.iload 4, 2) := by decide +kernel
theorem dX8_countBends_9 : decode cX8_countBends 9 = .ok (.sipush 150, 3) := by decide +kernel
theorem dX8_countBends_12 : decode cX8_countBends 12 = .ok (.if_icmp .ge 58, 3) := by decide +kernel
theorem dX8_countBends_15 : decode cX8_countBends 15 = .ok (.aload_n 0, 1) := by decide +kernel
theorem dX8_countBends_16 : decode cX8_countBends 16 = .ok (.getfield 51, 3) := by decide +kernel
theorem dX8_countBends_19 : decode cX8_countBends 19 = .ok (.aload_n 0, 1) := by decide +kernel
theorem dX8_countBends_20 : decode cX8_countBends 20 = .ok (.getfield 12, 3) := by decide +kernel
theorem dX8_countBends_23 : decode cX8_countBends 23 = .ok (.getfield 91, 3) := by decide +kernel
theorem dX8_countBends_26 : decode cX8_countBends 26 = .ok (.iload_n 3, 1) := by decide +kernel
theorem dX8_countBends_27 : decode cX8_countBends 27 = .ok (.invokevirtual 261, 3) := by decide +kernel
theorem dX8_countBends_30 : decode cX8_countBends 30 = .ok (.ifCond .eq 40, 3) := by decide +kernel
theorem dX8_countBends_33 : decode cX8_countBends 33 = .ok (.iload_n 1, 1) := by decide +kernel
theorem dX8_countBends_34 : decode cX8_countBends 34 = .ok (.ifCond .eq 17, 3) := by decide +kernel
theorem dX8_countBends_37 : decode cX8_countBends 37 = .ok (.aload_n 0, 1) := by decide +kernel
theorem dX8_countBends_38 : decode cX8_countBends 38 = .ok (.getfield 12, 3) := by decide +kernel
theorem dX8_countBends_41 : decode cX8_countBends 41 = .ok (.aload_n 0, 1) := by decide +kernel
theorem dX8_countBends_42 : decode cX8_countBends 42 = .ok (.getfield 51, 3) := by decide +kernel
theorem dX8_countBends_45 : decode cX8_countBends 45 = .ok (.invokevirtual 192, 3) := by decide +kernel
theorem dX8_countBends_48 : decode cX8_countBends 48 = .ok (.ifCond .eq 6, 3) := by decide +kernel
theorem dX8_countBends_51 : decode cX8_countBends 51 = .ok (.iinc 2 1, 3) := by decide +kernel
theorem dX8_countBends_54 : decode cX8_countBends 54 = .ok (.aload_n 0, 1) := by decide +kernel
theorem dX8_countBends_55 : decode cX8_countBends 55 = .ok (.getfield 51, 3) := by decide +kernel
theorem dX8_countBends_58 : decode cX8_countBends 58 = .ok (.getfield 183, 3) := by decide +kernel
theorem dX8_countBends_61 : decode cX8_countBends 61 = .ok (.iconst 1, 1) := by decide +kernel
theorem dX8_countBends_62 : decode cX8_countBends 62 = .ok (.iadd, 1) := by decide +kernel
theorem dX8_countBends_63 : decode cX8_countBends 63 = .ok (.istore_n 3, 1) := by decide +kernel
theorem dX8_countBends_64 : decode cX8_countBends 64 = .ok (.iinc 4 1, 3) := by decide +kernel
theorem dX8_countBends_67 : decode cX8_countBends 67 = .ok (.goto (-60), 3) := by decide +kernel
theorem dX8_countBends_70 : decode cX8_countBends 70 = .ok (.iload_n 2, 1) := by decide +kernel
theorem dX8_countBends_71 : decode cX8_countBends 71 = .ok (.ireturn, 1) := by decide +kernel
theorem dX8_countNecks_0 : decode cX8_countNecks 0 = .ok (.iconst 0, 1) := by decide +kernel
theorem dX8_countNecks_1 : decode cX8_countNecks 1 = .ok (.istore_n 1, 1) := by decide +kernel
theorem dX8_countNecks_2 : decode cX8_countNecks 2 = .ok (.iconst 0, 1) := by decide +kernel
theorem dX8_countNecks_3 : decode cX8_countNecks 3 = .ok (.istore_n 2, 1) := by decide +kernel
theorem dX8_countNecks_4 : decode cX8_countNecks 4 = .ok (.iload_n 2, 1) := by decide +kernel
theorem dX8_countNecks_5 : decode cX8_countNecks 5 = .ok (.aload_n 0, 1) := by decide +kernel
theorem dX8_countNecks_6 : decode cX8_countNecks 6 = .ok (.getfield 12, 3) := by decide +kernel
theorem dX8_countNecks_9 : decode cX8_countNecks 9 = .ok (.getfield 91, 3) := by decide +kernel
theorem dX8_countNecks_12 : decode cX8_countNecks 12 = .ok (.invokevirtual 102, 3) := by decide +kernel
theorem dX8_countNecks_15 : decode cX8_countNecks 15 = .ok (.if_icmp .ge 43, 3) := by decide +kernel
theorem dX8_countNecks_18 : decode cX8_countNecks 18 = .ok (.iconst 0, 1) := by decide +kernel
theorem dX8_countNecks_19 : decode cX8_countNecks 19 = .ok (.istore_n 3, 1) := by decide +kernel
theorem dX8_countNecks_20 : decode cX8_countNecks 20 = .ok (.iload_n 3, 1) := by decide +kernel
theorem dX8_countNecks_21 : decode cX8_countNecks 21 = .ok (.iconst 4, 1) := by decide +kernel
theorem dX8_countNecks_22 : decode cX8_countNecks 22 = .ok (.if_icmp .ge 30, 3) := by decide +kernel
theorem dX8_countNecks_25 : decode cX8_countNecks 25 = .ok (.aload_n 0, 1) := by decide +kernel
theorem dX8_countNecks_26 : decode cX8_countNecks 26 = .ok (.getfield 12, 3) := by decide +kernel
theorem dX8_countNecks_29 : decode cX8_countNecks 29 = .ok (.getfield 91, 3) := by decide +kernel
theorem dX8_countNecks_32 : decode cX8_countNecks 32 = .ok (.iload_n 2, 1) := by decide +kernel
theorem dX8_countNecks_33 : decode cX8_countNecks 33 = .ok (.iload_n 3, 1) := by decide +kernel
theorem dX8_countNecks_34 : decode cX8_countNecks 34 = .ok (.invokevirtual 264, 3) := by decide +kernel
theorem dX8_countNecks_37 : decode cX8_countNecks 37 = .ok (.iload_n 2, 1) := by decide +kernel
theorem dX8_countNecks_38 : decode cX8_countNecks 38 = .ok (.iconst 3, 1) := by decide +kernel
theorem dX8_countNecks_39 : decode cX8_countNecks 39 = .ok (.iadd, 1) := by decide +kernel
theorem dX8_countNecks_40 : decode cX8_countNecks 40 = .ok (.if_icmp .lt 6, 3) := by decide +kernel
theorem dX8_countNecks_43 : decode cX8_countNecks 43 = .ok (.iinc 1 1, 3) := by decide +kernel
theorem dX8_countNecks_46 : decode cX8_countNecks 46 = .ok (.iinc 3 1, 3) := by decide +kernel
theorem dX8_countNecks_49 : decode cX8_countNecks 49 = .ok (.goto (-29), 3) := by decide +kernel
theorem dX8_countNecks_52 : decode cX8_countNecks 52 = .ok (.iinc 2 1, 3) := by decide +kernel
theorem dX8_countNecks_55 : decode cX8_countNecks 55 = .ok (.goto (-51), 3) := by decide +kernel
theorem dX8_countNecks_58 : decode cX8_countNecks 58 = .ok (.iload_n 1, 1) := by decide +kernel
theorem dX8_countNecks_59 : decode cX8_countNecks 59 = .ok (.ireturn, 1) := by decide +kernel
theorem dX8_orNone_0 : decode cX8_orNone 0 = .ok (.iload_n 0, 1) := by decide +kernel
theorem dX8_orNone_1 : decode cX8_orNone 1 = .ok (.iconst (-1), 1) := by decide +kernel
theorem dX8_orNone_2 : decode cX8_orNone 2 = .ok (.if_icmp .ne 8, 3) := by decide +kernel
theorem dX8_orNone_5 : decode cX8_orNone 5 = .ok (.bipush (-6), 2) := by decide +kernel
theorem dX8_orNone_7 : decode cX8_orNone 7 = .ok (.goto 4, 3) := by decide +kernel
theorem dX8_orNone_10 : decode cX8_orNone 10 = .ok (.iload_n 0, 1) := by decide +kernel
theorem dX8_orNone_11 : decode cX8_orNone 11 = .ok (.ireturn, 1) := by decide +kernel
theorem dX8_asNumber_0 : decode cX8_asNumber 0 = .ok (.iload_n 0, 1) := by decide +kernel
theorem dX8_asNumber_1 : decode cX8_asNumber 1 = .ok (.ifCond .eq 7, 3) := by decide +kernel
theorem dX8_asNumber_4 : decode cX8_asNumber 4 = .ok (.iconst 1, 1) := by decide +kernel
theorem dX8_asNumber_5 : decode cX8_asNumber 5 = .ok (.goto 4, 3) := by decide +kernel
theorem dX8_asNumber_8 : decode cX8_asNumber 8 = .ok (.iconst 0, 1) := by decide +kernel
theorem dX8_asNumber_9 : decode cX8_asNumber 9 = .ok (.ireturn, 1) := by decide +kernel
theorem dX8_cellAt_0 : decode cX8_cellAt 0 = .ok (.iload_n 0, 1) := by decide +kernel
theorem dX8_cellAt_1 : decode cX8_cellAt 1 = .ok (.ifCond .lt 19, 3) := by decide +kernel
theorem dX8_cellAt_4 : decode cX8_cellAt 4 = .ok (.iload_n 0, 1) := by decide +kernel
theorem dX8_cellAt_5 : decode cX8_cellAt 5 = .ok (.bipush 20, 2) := by decide +kernel
theorem dX8_cellAt_7 : decode cX8_cellAt 7 = .ok (.if_icmp .ge 13, 3) := by decide +kernel
theorem dX8_cellAt_10 : decode cX8_cellAt 10 = .ok (.iload_n 1, 1) := by decide +kernel
theorem dX8_cellAt_11 : decode cX8_cellAt 11 = .ok (.ifCond .lt 9, 3) := by decide +kernel
theorem dX8_cellAt_14 : decode cX8_cellAt 14 = .ok (.iload_n 1, 1) := by decide +kernel
theorem dX8_cellAt_15 : decode cX8_cellAt 15 = .ok (.bipush 12, 2) := by decide +kernel
theorem dX8_cellAt_17 : decode cX8_cellAt 17 = .ok (.if_icmp .lt 5, 3) := by decide +kernel
theorem dX8_cellAt_20 : decode cX8_cellAt 20 = .ok (.iconst (-1), 1) := by decide +kernel
theorem dX8_cellAt_21 : decode cX8_cellAt 21 = .ok (.ireturn, 1) := by decide +kernel
theorem dX8_cellAt_22 : decode cX8_cellAt 22 = .ok (.iload_n 1, 1) := by decide +kernel
theorem dX8_cellAt_23 : decode cX8_cellAt 23 = .ok (.bipush 20, 2) := by decide +kernel
theorem dX8_cellAt_25 : decode cX8_cellAt 25 = .ok (.imul, 1) := by decide +kernel
theorem dX8_cellAt_26 : decode cX8_cellAt 26 = .ok (.iload_n 0, 1) := by decide +kernel
theorem dX8_cellAt_27 : decode cX8_cellAt 27 = .ok (.iadd, 1) := by decide +kernel
theorem dX8_cellAt_28 : decode cX8_cellAt 28 = .ok (.ireturn, 1) := by decide +kernel
theorem dX8_isOnLand_0 : decode cX8_isOnLand 0 = .ok (.iload_n 0, 1) := by decide +kernel
theorem dX8_isOnLand_1 : decode cX8_isOnLand 1 = .ok (.ifCond .lt 14, 3) := by decide +kernel
theorem dX8_isOnLand_4 : decode cX8_isOnLand 4 = .ok (.iload_n 0, 1) := by decide +kernel
theorem dX8_isOnLand_5 : decode cX8_isOnLand 5 = .ok (.sipush 240, 3) := by decide +kernel
theorem dX8_isOnLand_8 : decode cX8_isOnLand 8 = .ok (.if_icmp .ge 7, 3) := by decide +kernel
theorem dX8_isOnLand_11 : decode cX8_isOnLand 11 = .ok (.iconst 1, 1) := by decide +kernel
theorem dX8_isOnLand_12 : decode cX8_isOnLand 12 = .ok (.goto 4, 3) := by decide +kernel
theorem dX8_isOnLand_15 : decode cX8_isOnLand 15 = .ok (.iconst 0, 1) := by decide +kernel
theorem dX8_isOnLand_16 : decode cX8_isOnLand 16 = .ok (.ireturn, 1) := by decide +kernel
theorem dX8_beside_0 : decode cX8_beside 0 = .ok (.iload_n 0, 1) := by decide +kernel
theorem dX8_beside_1 : decode cX8_beside 1 = .ok (.ifCond .lt 10, 3) := by decide +kernel
theorem dX8_beside_4 : decode cX8_beside 4 = .ok (.iload_n 0, 1) := by decide +kernel
theorem dX8_beside_5 : decode cX8_beside 5 = .ok (.sipush 240, 3) := by decide +kernel
theorem dX8_beside_8 : decode cX8_beside 8 = .ok (.if_icmp .lt 5, 3) := by decide +kernel
theorem dX8_beside_11 : decode cX8_beside 11 = .ok (.iconst (-1), 1) := by decide +kernel
theorem dX8_beside_12 : decode cX8_beside 12 = .ok (.ireturn, 1) := by decide +kernel
theorem dX8_beside_13 : decode cX8_beside 13 = .ok (.iload_n 1, 1) := by decide +kernel
theorem dX8_beside_14 : decode cX8_beside 14 = .ok (.tableswitch 96 0 3 #[30, 47, 66, 81], 30) := by decide +kernel
theorem dX8_beside_44 : decode cX8_beside 44 = .ok (.iload_n 0, 1) := by decide +kernel
theorem dX8_beside_45 : decode cX8_beside 45 = .ok (.bipush 20, 2) := by decide +kernel
theorem dX8_beside_47 : decode cX8_beside 47 = .ok (.irem, 1) := by decide +kernel
theorem dX8_beside_48 : decode cX8_beside 48 = .ok (.bipush 19, 2) := by decide +kernel
theorem dX8_beside_50 : decode cX8_beside 50 = .ok (.if_icmp .ge 9, 3) := by decide +kernel
theorem dX8_beside_53 : decode cX8_beside 53 = .ok (.iload_n 0, 1) := by decide +kernel
theorem dX8_beside_54 : decode cX8_beside 54 = .ok (.iconst 1, 1) := by decide +kernel
theorem dX8_beside_55 : decode cX8_beside 55 = .ok (.iadd, 1) := by decide +kernel
theorem dX8_beside_56 : decode cX8_beside 56 = .ok (.goto 4, 3) := by decide +kernel
theorem dX8_beside_59 : decode cX8_beside 59 = .ok (.iconst (-1), 1) := by decide +kernel
theorem dX8_beside_60 : decode cX8_beside 60 = .ok (.ireturn, 1) := by decide +kernel
theorem dX8_beside_61 : decode cX8_beside 61 = .ok (.iload_n 0, 1) := by decide +kernel
theorem dX8_beside_62 : decode cX8_beside 62 = .ok (.bipush 20, 2) := by decide +kernel
theorem dX8_beside_64 : decode cX8_beside 64 = .ok (.iadd, 1) := by decide +kernel
theorem dX8_beside_65 : decode cX8_beside 65 = .ok (.sipush 240, 3) := by decide +kernel
theorem dX8_beside_68 : decode cX8_beside 68 = .ok (.if_icmp .ge 10, 3) := by decide +kernel
theorem dX8_beside_71 : decode cX8_beside 71 = .ok (.iload_n 0, 1) := by decide +kernel
theorem dX8_beside_72 : decode cX8_beside 72 = .ok (.bipush 20, 2) := by decide +kernel
theorem dX8_beside_74 : decode cX8_beside 74 = .ok (.iadd, 1) := by decide +kernel
theorem dX8_beside_75 : decode cX8_beside 75 = .ok (.goto 4, 3) := by decide +kernel
theorem dX8_beside_78 : decode cX8_beside 78 = .ok (.iconst (-1), 1) := by decide +kernel
theorem dX8_beside_79 : decode cX8_beside 79 = .ok (.ireturn, 1) := by decide +kernel
theorem dX8_beside_80 : decode cX8_beside 80 = .ok (.iload_n 0, 1) := by decide +kernel
theorem dX8_beside_81 : decode cX8_beside 81 = .ok (.bipush 20, 2) := by decide +kernel
theorem dX8_beside_83 : decode cX8_beside 83 = .ok (.irem, 1) := by decide +kernel
theorem dX8_beside_84 : decode cX8_beside 84 = .ok (.ifCond .le 9, 3) := by decide +kernel
theorem dX8_beside_87 : decode cX8_beside 87 = .ok (.iload_n 0, 1) := by decide +kernel
theorem dX8_beside_88 : decode cX8_beside 88 = .ok (.iconst 1, 1) := by decide +kernel
theorem dX8_beside_89 : decode cX8_beside 89 = .ok (.isub, 1) := by decide +kernel
theorem dX8_beside_90 : decode cX8_beside 90 = .ok (.goto 4, 3) := by decide +kernel
theorem dX8_beside_93 : decode cX8_beside 93 = .ok (.iconst (-1), 1) := by decide +kernel
theorem dX8_beside_94 : decode cX8_beside 94 = .ok (.ireturn, 1) := by decide +kernel
theorem dX8_beside_95 : decode cX8_beside 95 = .ok (.iload_n 0, 1) := by decide +kernel
theorem dX8_beside_96 : decode cX8_beside 96 = .ok (.bipush 20, 2) := by decide +kernel
theorem dX8_beside_98 : decode cX8_beside 98 = .ok (.if_icmp .lt 10, 3) := by decide +kernel
theorem dX8_beside_101 : decode cX8_beside 101 = .ok (.iload_n 0, 1) := by decide +kernel
theorem dX8_beside_102 : decode cX8_beside 102 = .ok (.bipush 20, 2) := by decide +kernel
theorem dX8_beside_104 : decode cX8_beside 104 = .ok (.isub, 1) := by decide +kernel
theorem dX8_beside_105 : decode cX8_beside 105 = .ok (.goto 4, 3) := by decide +kernel
theorem dX8_beside_108 : decode cX8_beside 108 = .ok (.iconst (-1), 1) := by decide +kernel
theorem dX8_beside_109 : decode cX8_beside 109 = .ok (.ireturn, 1) := by decide +kernel
theorem dX8_beside_110 : decode cX8_beside 110 = .ok (.iconst (-1), 1) := by decide +kernel
theorem dX8_beside_111 : decode cX8_beside 111 = .ok (.ireturn, 1) := by decide +kernel
theorem dX8_areOpposite_0 : decode cX8_areOpposite 0 = .ok (.iload_n 0, 1) := by decide +kernel
theorem dX8_areOpposite_1 : decode cX8_areOpposite 1 = .ok (.iload_n 1, 1) := by decide +kernel
theorem dX8_areOpposite_2 : decode cX8_areOpposite 2 = .ok (.isub, 1) := by decide +kernel
theorem dX8_areOpposite_3 : decode cX8_areOpposite 3 = .ok (.invokestatic 267, 3) := by decide +kernel
theorem dX8_areOpposite_6 : decode cX8_areOpposite 6 = .ok (.iconst 2, 1) := by decide +kernel
theorem dX8_areOpposite_7 : decode cX8_areOpposite 7 = .ok (.if_icmp .ne 7, 3) := by decide +kernel
theorem dX8_areOpposite_10 : decode cX8_areOpposite 10 = .ok (.iconst 1, 1) := by decide +kernel
theorem dX8_areOpposite_11 : decode cX8_areOpposite 11 = .ok (.goto 4, 3) := by decide +kernel
theorem dX8_areOpposite_14 : decode cX8_areOpposite 14 = .ok (.iconst 0, 1) := by decide +kernel
theorem dX8_areOpposite_15 : decode cX8_areOpposite 15 = .ok (.ireturn, 1) := by decide +kernel
theorem dJ9_abs_0f7a4_0 : decode cJ9_abs_0f7a4 0 = .ok (.iload_n 0, 1) := by decide +kernel
theorem dJ9_abs_0f7a4_1 : decode cJ9_abs_0f7a4 1 = .ok (.ifCond .ge 8, 3) := by decide +kernel
theorem dJ9_abs_0f7a4_4 : decode cJ9_abs_0f7a4 4 = .ok (.iload_n 0, 1) := by decide +kernel
theorem dJ9_abs_0f7a4_5 : decode cJ9_abs_0f7a4 5 = .ok (.ineg, 1) := by decide +kernel
theorem dJ9_abs_0f7a4_6 : decode cJ9_abs_0f7a4 6 = .ok (.goto 4, 3) := by decide +kernel
theorem dJ9_abs_0f7a4_9 : decode cJ9_abs_0f7a4 9 = .ok (.iload_n 0, 1) := by decide +kernel
theorem dJ9_abs_0f7a4_10 : decode cJ9_abs_0f7a4 10 = .ok (.ireturn, 1) := by decide +kernel
theorem dJ9_max_7cf53_0 : decode cJ9_max_7cf53 0 = .ok (.iload_n 0, 1) := by decide +kernel
theorem dJ9_max_7cf53_1 : decode cJ9_max_7cf53 1 = .ok (.iload_n 1, 1) := by decide +kernel
theorem dJ9_max_7cf53_2 : decode cJ9_max_7cf53 2 = .ok (.if_icmp .lt 7, 3) := by decide +kernel
theorem dJ9_max_7cf53_5 : decode cJ9_max_7cf53 5 = .ok (.iload_n 0, 1) := by decide +kernel
theorem dJ9_max_7cf53_6 : decode cJ9_max_7cf53 6 = .ok (.goto 4, 3) := by decide +kernel
theorem dJ9_max_7cf53_9 : decode cJ9_max_7cf53 9 = .ok (.iload_n 1, 1) := by decide +kernel
theorem dJ9_max_7cf53_10 : decode cJ9_max_7cf53 10 = .ok (.ireturn, 1) := by decide +kernel
theorem dJ9_min_7cf53_0 : decode cJ9_min_7cf53 0 = .ok (.iload_n 0, 1) := by decide +kernel
theorem dJ9_min_7cf53_1 : decode cJ9_min_7cf53 1 = .ok (.iload_n 1, 1) := by decide +kernel
theorem dJ9_min_7cf53_2 : decode cJ9_min_7cf53 2 = .ok (.if_icmp .gt 7, 3) := by decide +kernel
theorem dJ9_min_7cf53_5 : decode cJ9_min_7cf53 5 = .ok (.iload_n 0, 1) := by decide +kernel
theorem dJ9_min_7cf53_6 : decode cJ9_min_7cf53 6 = .ok (.goto 4, 3) := by decide +kernel
theorem dJ9_min_7cf53_9 : decode cJ9_min_7cf53 9 = .ok (.iload_n 1, 1) := by decide +kernel
theorem dJ9_min_7cf53_10 : decode cJ9_min_7cf53 10 = .ok (.ireturn, 1) := by decide +kernel
theorem dJ7_fill_53178_0 : decode cJ7_fill_53178 0 = .ok (.iconst 0, 1) := by decide +kernel
theorem dJ7_fill_53178_1 : decode cJ7_fill_53178 1 = .ok (.istore_n 2, 1) := by decide +kernel
theorem dJ7_fill_53178_2 : decode cJ7_fill_53178 2 = .ok (.aload_n 0, 1) := by decide +kernel
theorem dJ7_fill_53178_3 : decode cJ7_fill_53178 3 = .ok (.arraylength, 1) := by decide +kernel
theorem dJ7_fill_53178_4 : decode cJ7_fill_53178 4 = .ok (.istore_n 3, 1) := by decide +kernel
theorem dJ7_fill_53178_5 : decode cJ7_fill_53178 5 = .ok (.iload_n 2, 1) := by decide +kernel
theorem dJ7_fill_53178_6 : decode cJ7_fill_53178 6 = .ok (.iload_n 3, 1) := by decide +kernel
theorem dJ7_fill_53178_7 : decode cJ7_fill_53178 7 = .ok (.if_icmp .ge 13, 3) := by decide +kernel
theorem dJ7_fill_53178_10 : decode cJ7_fill_53178 10 = .ok (.aload_n 0, 1) := by decide +kernel
theorem dJ7_fill_53178_11 : decode cJ7_fill_53178 11 = .ok (.iload_n 2, 1) := by decide +kernel
theorem dJ7_fill_53178_12 : decode cJ7_fill_53178 12 = .ok (.iload_n 1, 1) := by decide +kernel
theorem dJ7_fill_53178_13 : decode cJ7_fill_53178 13 = .ok (.iastore, 1) := by decide +kernel
theorem dJ7_fill_53178_14 : decode cJ7_fill_53178 14 = .ok (.iinc 2 1, 3) := by decide +kernel
theorem dJ7_fill_53178_17 : decode cJ7_fill_53178 17 = .ok (.goto (-12), 3) := by decide +kernel
theorem dJ7_fill_53178_20 : decode cJ7_fill_53178 20 = .ok (.return_, 1) := by decide +kernel
