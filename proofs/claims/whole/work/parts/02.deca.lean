theorem dX0_init_0 : decode cX0_init 0 = .ok (.aload_n 0, 1) := by decide +kernel
theorem dX0_init_1 : decode cX0_init 1 = .ok (.invokespecial 3, 3) := by decide +kernel
theorem dX0_init_4 : decode cX0_init 4 = .ok (.aload_n 0, 1) := by decide +kernel
theorem dX0_init_5 : decode cX0_init 5 = .ok (.bipush 16, 2) := by decide +kernel
theorem dX0_init_7 : decode cX0_init 7 = .ok (.newarray .int, 2) := by decide +kernel
theorem dX0_init_9 : decode cX0_init 9 = .ok (.putfield 11, 3) := by decide +kernel
theorem dX0_init_12 : decode cX0_init 12 = .ok (.return_, 1) := by decide +kernel
theorem dX0_startFor_0 : decode cX0_startFor 0 = .ok (.aload_n 0, 1) := by decide +kernel
theorem dX0_startFor_1 : decode cX0_startFor 1 = .ok (.iconst 0, 1) := by decide +kernel
theorem dX0_startFor_2 : decode cX0_startFor 2 = .ok (.putfield 15, 3) := by decide +kernel
theorem dX0_startFor_5 : decode cX0_startFor 5 = .ok (.aload_n 0, 1) := by decide +kernel
theorem dX0_startFor_6 : decode cX0_startFor 6 = .ok (.iload_n 1, 1) := by decide +kernel
theorem dX0_startFor_7 : decode cX0_startFor 7 = .ok (.putfield 19, 3) := by decide +kernel
theorem dX0_startFor_10 : decode cX0_startFor 10 = .ok (.return_, 1) := by decide +kernel
theorem dX0_begin_0 : decode cX0_begin 0 = .ok (.aload_n 0, 1) := by decide +kernel
theorem dX0_begin_1 : decode cX0_begin 1 = .ok (.getfield 15, 3) := by decide +kernel
theorem dX0_begin_4 : decode cX0_begin 4 = .ok (.bipush 16, 2) := by decide +kernel
theorem dX0_begin_6 : decode cX0_begin 6 = .ok (.if_icmp .ge 23, 3) := by decide +kernel
theorem dX0_begin_9 : decode cX0_begin 9 = .ok (.aload_n 0, 1) := by decide +kernel
theorem dX0_begin_10 : decode cX0_begin 10 = .ok (.getfield 11, 3) := by decide +kernel
theorem dX0_begin_13 : decode cX0_begin 13 = .ok (.aload_n 0, 1) := by decide +kernel
theorem dX0_begin_14 : decode cX0_begin 14 = .ok (.getfield 15, 3) := by decide +kernel
theorem dX0_begin_17 : decode cX0_begin 17 = .ok (.iload_n 1, 1) := by decide +kernel
theorem dX0_begin_18 : decode cX0_begin 18 = .ok (.iastore, 1) := by decide +kernel
theorem dX0_begin_19 : decode cX0_begin 19 = .ok (.aload_n 0, 1) := by decide +kernel
theorem dX0_begin_20 : decode cX0_begin 20 = .ok (.dup, 1) := by decide +kernel
theorem dX0_begin_21 : decode cX0_begin 21 = .ok (.getfield 15, 3) := by decide +kernel
theorem dX0_begin_24 : decode cX0_begin 24 = .ok (.iconst 1, 1) := by decide +kernel
theorem dX0_begin_25 : decode cX0_begin 25 = .ok (.iadd, 1) := by decide +kernel
theorem dX0_begin_26 : decode cX0_begin 26 = .ok (.putfield 15, 3) := by decide +kernel
theorem dX0_begin_29 : decode cX0_begin 29 = .ok (.return_, 1) := by decide +kernel
theorem dX0_bodyAt_0 : decode cX0_bodyAt 0 = .ok (.iload_n 1, 1) := by decide +kernel
theorem dX0_bodyAt_1 : decode cX0_bodyAt 1 = .ok (.ifCond .lt 20, 3) := by decide +kernel
theorem dX0_bodyAt_4 : decode cX0_bodyAt 4 = .ok (.iload_n 1, 1) := by decide +kernel
theorem dX0_bodyAt_5 : decode cX0_bodyAt 5 = .ok (.aload_n 0, 1) := by decide +kernel
theorem dX0_bodyAt_6 : decode cX0_bodyAt 6 = .ok (.getfield 15, 3) := by decide +kernel
theorem dX0_bodyAt_9 : decode cX0_bodyAt 9 = .ok (.if_icmp .ge 12, 3) := by decide +kernel
theorem dX0_bodyAt_12 : decode cX0_bodyAt 12 = .ok (.aload_n 0, 1) := by decide +kernel
theorem dX0_bodyAt_13 : decode cX0_bodyAt 13 = .ok (.getfield 11, 3) := by decide +kernel
theorem dX0_bodyAt_16 : decode cX0_bodyAt 16 = .ok (.iload_n 1, 1) := by decide +kernel
theorem dX0_bodyAt_17 : decode cX0_bodyAt 17 = .ok (.iaload, 1) := by decide +kernel
theorem dX0_bodyAt_18 : decode cX0_bodyAt 18 = .ok (.goto 5, 3) := by decide +kernel
theorem dX0_bodyAt_21 : decode cX0_bodyAt 21 = .ok (.ldc 22, 2) := by decide +kernel
theorem dX0_bodyAt_23 : decode cX0_bodyAt 23 = .ok (.ireturn, 1) := by decide +kernel
theorem dX1_init_0 : decode cX1_init 0 = .ok (.aload_n 0, 1) := by decide +kernel
theorem dX1_init_1 : decode cX1_init 1 = .ok (.iload_n 1, 1) := by decide +kernel
theorem dX1_init_2 : decode cX1_init 2 = .ok (.iload_n 2, 1) := by decide +kernel
theorem dX1_init_3 : decode cX1_init 3 = .ok (.invokespecial 3, 3) := by decide +kernel
theorem dX1_init_6 : decode cX1_init 6 = .ok (.return_, 1) := by decide +kernel
theorem dX1_sort_0 : decode cX1_sort 0 = .ok (.iconst 2, 1) := by decide +kernel
theorem dX1_sort_1 : decode cX1_sort 1 = .ok (.ireturn, 1) := by decide +kernel
theorem dX1_padding_0 : decode cX1_padding 0 = .ok (.iload_n 1, 1) := by decide +kernel
theorem dX1_padding_1 : decode cX1_padding 1 = .ok (.ifCond .le 9, 3) := by decide +kernel
theorem dX1_padding_4 : decode cX1_padding 4 = .ok (.iconst 2, 1) := by decide +kernel
theorem dX1_padding_5 : decode cX1_padding 5 = .ok (.iload_n 1, 1) := by decide +kernel
theorem dX1_padding_6 : decode cX1_padding 6 = .ok (.imul, 1) := by decide +kernel
theorem dX1_padding_7 : decode cX1_padding 7 = .ok (.goto 4, 3) := by decide +kernel
theorem dX1_padding_10 : decode cX1_padding 10 = .ok (.iload_n 1, 1) := by decide +kernel
theorem dX1_padding_11 : decode cX1_padding 11 = .ok (.ireturn, 1) := by decide +kernel
theorem dX1_size_0 : decode cX1_size 0 = .ok (.aload_n 1, 1) := by decide +kernel
theorem dX1_size_1 : decode cX1_size 1 = .ok (.bipush 12, 2) := by decide +kernel
theorem dX1_size_3 : decode cX1_size 3 = .ok (.invokevirtual 9, 3) := by decide +kernel
theorem dX1_size_6 : decode cX1_size 6 = .ok (.aload_n 0, 1) := by decide +kernel
theorem dX1_size_7 : decode cX1_size 7 = .ok (.aload_n 1, 1) := by decide +kernel
theorem dX1_size_8 : decode cX1_size 8 = .ok (.invokespecial 15, 3) := by decide +kernel
theorem dX1_size_11 : decode cX1_size 11 = .ok (.ineg, 1) := by decide +kernel
theorem dX1_size_12 : decode cX1_size 12 = .ok (.ireturn, 1) := by decide +kernel
theorem dX1_mark_0 : decode cX1_mark 0 = .ok (.aload_n 1, 1) := by decide +kernel
theorem dX1_mark_1 : decode cX1_mark 1 = .ok (.bipush 24, 2) := by decide +kernel
theorem dX1_mark_3 : decode cX1_mark 3 = .ok (.invokevirtual 9, 3) := by decide +kernel
theorem dX1_mark_6 : decode cX1_mark 6 = .ok (.iconst 2, 1) := by decide +kernel
theorem dX1_mark_7 : decode cX1_mark 7 = .ok (.aload_n 0, 1) := by decide +kernel
theorem dX1_mark_8 : decode cX1_mark 8 = .ok (.aload_n 1, 1) := by decide +kernel
theorem dX1_mark_9 : decode cX1_mark 9 = .ok (.invokespecial 19, 3) := by decide +kernel
theorem dX1_mark_12 : decode cX1_mark 12 = .ok (.imul, 1) := by decide +kernel
theorem dX1_mark_13 : decode cX1_mark 13 = .ok (.ireturn, 1) := by decide +kernel
theorem dX2_init_0 : decode cX2_init 0 = .ok (.aload_n 0, 1) := by decide +kernel
theorem dX2_init_1 : decode cX2_init 1 = .ok (.invokespecial 3, 3) := by decide +kernel
theorem dX2_init_4 : decode cX2_init 4 = .ok (.aload_n 0, 1) := by decide +kernel
theorem dX2_init_5 : decode cX2_init 5 = .ok (.bipush 15, 2) := by decide +kernel
theorem dX2_init_7 : decode cX2_init 7 = .ok (.newarray .int, 2) := by decide +kernel
theorem dX2_init_9 : decode cX2_init 9 = .ok (.putfield 9, 3) := by decide +kernel
theorem dX2_init_12 : decode cX2_init 12 = .ok (.aload_n 0, 1) := by decide +kernel
theorem dX2_init_13 : decode cX2_init 13 = .ok (.bipush 16, 2) := by decide +kernel
theorem dX2_init_15 : decode cX2_init 15 = .ok (.newarray .int, 2) := by decide +kernel
theorem dX2_init_17 : decode cX2_init 17 = .ok (.putfield 15, 3) := by decide +kernel
theorem dX2_init_20 : decode cX2_init 20 = .ok (.return_, 1) := by decide +kernel
theorem dX2_fittingSets_0 : decode cX2_fittingSets 0 = .ok (.aload_n 0, 1) := by decide +kernel
theorem dX2_fittingSets_1 : decode cX2_fittingSets 1 = .ok (.aload_n 1, 1) := by decide +kernel
theorem dX2_fittingSets_2 : decode cX2_fittingSets 2 = .ok (.iload_n 2, 1) := by decide +kernel
theorem dX2_fittingSets_3 : decode cX2_fittingSets 3 = .ok (.invokevirtual 18, 3) := by decide +kernel
theorem dX2_fittingSets_6 : decode cX2_fittingSets 6 = .ok (.iconst 0, 1) := by decide +kernel
theorem dX2_fittingSets_7 : decode cX2_fittingSets 7 = .ok (.istore 6, 2) := by decide +kernel
theorem dX2_fittingSets_9 : decode cX2_fittingSets 9 = .ok (.iconst 0, 1) := by decide +kernel
theorem dX2_fittingSets_10 : decode cX2_fittingSets 10 = .ok (.istore 7, 2) := by decide +kernel
theorem dX2_fittingSets_12 : decode cX2_fittingSets 12 = .ok (.iload 7, 2) := by decide +kernel
theorem dX2_fittingSets_14 : decode cX2_fittingSets 14 = .ok (.iconst 1, 1) := by decide +kernel
theorem dX2_fittingSets_15 : decode cX2_fittingSets 15 = .ok (.aload_n 1, 1) := by decide +kernel
theorem dX2_fittingSets_16 : decode cX2_fittingSets 16 = .ok (.getfield 22, 3) := by decide +kernel
theorem dX2_fittingSets_19 : decode cX2_fittingSets 19 = .ok (.ishl, 1) := by decide +kernel
theorem dX2_fittingSets_20 : decode cX2_fittingSets 20 = .ok (.if_icmp .ge 79, 3) := by decide +kernel
theorem dX2_fittingSets_23 : decode cX2_fittingSets 23 = .ok (.iconst 1, 1) := by decide +kernel
theorem dX2_fittingSets_24 : decode cX2_fittingSets 24 = .ok (.istore 8, 2) := by decide +kernel
theorem dX2_fittingSets_26 : decode cX2_fittingSets 26 = .ok (.iconst 0, 1) := by decide +kernel
theorem dX2_fittingSets_27 : decode cX2_fittingSets 27 = .ok (.istore 9, 2) := by decide +kernel
theorem dX2_fittingSets_29 : decode cX2_fittingSets 29 = .ok (.iload 9, 2) := by decide +kernel
theorem dX2_fittingSets_31 : decode cX2_fittingSets 31 = .ok (.iconst 3, 1) := by decide +kernel
theorem dX2_fittingSets_32 : decode cX2_fittingSets 32 = .ok (.if_icmp .ge 43, 3) := by decide +kernel
theorem dX2_fittingSets_35 : decode cX2_fittingSets 35 = .ok (.iload 8, 2) := by decide +kernel
theorem dX2_fittingSets_37 : decode cX2_fittingSets 37 = .ok (.ifCond .eq 29, 3) := by decide +kernel
theorem dX2_fittingSets_40 : decode cX2_fittingSets 40 = .ok (.aload_n 0, 1) := by decide +kernel
theorem dX2_fittingSets_41 : decode cX2_fittingSets 41 = .ok (.iload 7, 2) := by decide +kernel
theorem dX2_fittingSets_43 : decode cX2_fittingSets 43 = .ok (.iload 9, 2) := by decide +kernel
theorem dX2_fittingSets_45 : decode cX2_fittingSets 45 = .ok (.invokevirtual 28, 3) := by decide +kernel
theorem dX2_fittingSets_48 : decode cX2_fittingSets 48 = .ok (.aload_n 3, 1) := by decide +kernel
theorem dX2_fittingSets_49 : decode cX2_fittingSets 49 = .ok (.iload 4, 2) := by decide +kernel
theorem dX2_fittingSets_51 : decode cX2_fittingSets 51 = .ok (.iload 5, 2) := by decide +kernel
theorem dX2_fittingSets_53 : decode cX2_fittingSets 53 = .ok (.iload 9, 2) := by decide +kernel
theorem dX2_fittingSets_55 : decode cX2_fittingSets 55 = .ok (.iadd, 1) := by decide +kernel
theorem dX2_fittingSets_56 : decode cX2_fittingSets 56 = .ok (.invokevirtual 32, 3) := by decide +kernel
theorem dX2_fittingSets_59 : decode cX2_fittingSets 59 = .ok (.if_icmp .ne 7, 3) := by decide +kernel
theorem dX2_fittingSets_62 : decode cX2_fittingSets 62 = .ok (.iconst 1, 1) := by decide +kernel
theorem dX2_fittingSets_63 : decode cX2_fittingSets 63 = .ok (.goto 4, 3) := by decide +kernel
theorem dX2_fittingSets_66 : decode cX2_fittingSets 66 = .ok (.iconst 0, 1) := by decide +kernel
theorem dX2_fittingSets_67 : decode cX2_fittingSets 67 = .ok (.istore 8, 2) := by decide +kernel
theorem dX2_fittingSets_69 : decode cX2_fittingSets 69 = .ok (.iinc 9 1, 3) := by decide +kernel
theorem dX2_fittingSets_72 : decode cX2_fittingSets 72 = .ok (.goto (-43), 3) := by decide +kernel
theorem dX2_fittingSets_75 : decode cX2_fittingSets 75 = .ok (.iload 6, 2) := by decide +kernel
theorem dX2_fittingSets_77 : decode cX2_fittingSets 77 = .ok (.iload 8, 2) := by decide +kernel
theorem dX2_fittingSets_79 : decode cX2_fittingSets 79 = .ok (.ifCond .eq 10, 3) := by decide +kernel
theorem dX2_fittingSets_82 : decode cX2_fittingSets 82 = .ok (.iconst 1, 1) := by decide +kernel
theorem dX2_fittingSets_83 : decode cX2_fittingSets 83 = .ok (.iload 7, 2) := by decide +kernel
theorem dX2_fittingSets_85 : decode cX2_fittingSets 85 = .ok (.ishl, 1) := by decide +kernel
theorem dX2_fittingSets_86 : decode cX2_fittingSets 86 = .ok (.goto 4, 3) := by decide +kernel
theorem dX2_fittingSets_89 : decode cX2_fittingSets 89 = .ok (.iconst 0, 1) := by decide +kernel
theorem dX2_fittingSets_90 : decode cX2_fittingSets 90 = .ok (.ior, 1) := by decide +kernel
theorem dX2_fittingSets_91 : decode cX2_fittingSets 91 = .ok (.istore 6, 2) := by decide +kernel
theorem dX2_fittingSets_93 : decode cX2_fittingSets 93 = .ok (.iinc 7 1, 3) := by decide +kernel
theorem dX2_fittingSets_96 : decode cX2_fittingSets 96 = .ok (.goto (-84), 3) := by decide +kernel
theorem dX2_fittingSets_99 : decode cX2_fittingSets 99 = .ok (.iload 6, 2) := by decide +kernel
theorem dX2_fittingSets_101 : decode cX2_fittingSets 101 = .ok (.ireturn, 1) := by decide +kernel
theorem dX2_addSlips_0 : decode cX2_addSlips 0 = .ok (.aload_n 0, 1) := by decide +kernel
theorem dX2_addSlips_1 : decode cX2_addSlips 1 = .ok (.getfield 9, 3) := by decide +kernel
theorem dX2_addSlips_4 : decode cX2_addSlips 4 = .ok (.iconst 0, 1) := by decide +kernel
theorem dX2_addSlips_5 : decode cX2_addSlips 5 = .ok (.invokestatic 37, 3) := by decide +kernel
theorem dX2_addSlips_8 : decode cX2_addSlips 8 = .ok (.iconst 0, 1) := by decide +kernel
theorem dX2_addSlips_9 : decode cX2_addSlips 9 = .ok (.istore_n 3, 1) := by decide +kernel
theorem dX2_addSlips_10 : decode cX2_addSlips 10 = .ok (.iload_n 3, 1) := by decide +kernel
theorem dX2_addSlips_11 : decode cX2_addSlips 11 = .ok (.aload_n 1, 1) := by decide +kernel
theorem dX2_addSlips_12 : decode cX2_addSlips 12 = .ok (.getfield 43, 3) := by decide +kernel
theorem dX2_addSlips_15 : decode cX2_addSlips 15 = .ok (.if_icmp .ge 58, 3) := by decide +kernel
theorem dX2_addSlips_18 : decode cX2_addSlips 18 = .ok (.aload_n 1, 1) := by decide +kernel
theorem dX2_addSlips_19 : decode cX2_addSlips 19 = .ok (.iload_n 3, 1) := by decide +kernel
theorem dX2_addSlips_20 : decode cX2_addSlips 20 = .ok (.iload_n 2, 1) := by decide +kernel
theorem dX2_addSlips_21 : decode cX2_addSlips 21 = .ok (.invokevirtual 46, 3) := by decide +kernel
theorem dX2_addSlips_24 : decode cX2_addSlips 24 = .ok (.ifCond .eq 43, 3) := by decide +kernel
theorem dX2_addSlips_27 : decode cX2_addSlips 27 = .ok (.aload_n 1, 1) := by decide +kernel
theorem dX2_addSlips_28 : decode cX2_addSlips 28 = .ok (.iload_n 3, 1) := by decide +kernel
theorem dX2_addSlips_29 : decode cX2_addSlips 29 = .ok (.iconst 1, 1) := by decide +kernel
theorem dX2_addSlips_30 : decode cX2_addSlips 30 = .ok (.invokevirtual 50, 3) := by decide +kernel
theorem dX2_addSlips_33 : decode cX2_addSlips 33 = .ok (.aload_n 1, 1) := by decide +kernel
theorem dX2_addSlips_34 : decode cX2_addSlips 34 = .ok (.iload_n 3, 1) := by decide +kernel
theorem dX2_addSlips_35 : decode cX2_addSlips 35 = .ok (.iconst 3, 1) := by decide +kernel
theorem dX2_addSlips_36 : decode cX2_addSlips 36 = .ok (.invokevirtual 50, 3) := by decide +kernel
theorem dX2_addSlips_39 : decode cX2_addSlips 39 = .ok (.invokestatic 53, 3) := by decide +kernel
theorem dX2_addSlips_42 : decode cX2_addSlips 42 = .ok (.istore 4, 2) := by decide +kernel
theorem dX2_addSlips_44 : decode cX2_addSlips 44 = .ok (.aload_n 0, 1) := by decide +kernel
theorem dX2_addSlips_45 : decode cX2_addSlips 45 = .ok (.getfield 9, 3) := by decide +kernel
theorem dX2_addSlips_48 : decode cX2_addSlips 48 = .ok (.iload 4, 2) := by decide +kernel
theorem dX2_addSlips_50 : decode cX2_addSlips 50 = .ok (.dup2, 1) := by decide +kernel
theorem dX2_addSlips_51 : decode cX2_addSlips 51 = .ok (.iaload, 1) := by decide +kernel
theorem dX2_addSlips_52 : decode cX2_addSlips 52 = .ok (.aload_n 1, 1) := by decide +kernel
theorem dX2_addSlips_53 : decode cX2_addSlips 53 = .ok (.iload_n 3, 1) := by decide +kernel
theorem dX2_addSlips_54 : decode cX2_addSlips 54 = .ok (.iconst 4, 1) := by decide +kernel
theorem dX2_addSlips_55 : decode cX2_addSlips 55 = .ok (.invokevirtual 50, 3) := by decide +kernel
theorem dX2_addSlips_58 : decode cX2_addSlips 58 = .ok (.aload_n 1, 1) := by decide +kernel
theorem dX2_addSlips_59 : decode cX2_addSlips 59 = .ok (.iload_n 3, 1) := by decide +kernel
theorem dX2_addSlips_60 : decode cX2_addSlips 60 = .ok (.iconst 5, 1) := by decide +kernel
theorem dX2_addSlips_61 : decode cX2_addSlips 61 = .ok (.invokevirtual 50, 3) := by decide +kernel
theorem dX2_addSlips_64 : decode cX2_addSlips 64 = .ok (.isub, 1) := by decide +kernel
theorem dX2_addSlips_65 : decode cX2_addSlips 65 = .ok (.iadd, 1) := by decide +kernel
theorem dX2_addSlips_66 : decode cX2_addSlips 66 = .ok (.iastore, 1) := by decide +kernel
theorem dX2_addSlips_67 : decode cX2_addSlips 67 = .ok (.iinc 3 1, 3) := by decide +kernel
theorem dX2_addSlips_70 : decode cX2_addSlips 70 = .ok (.goto (-60), 3) := by decide +kernel
theorem dX2_addSlips_73 : decode cX2_addSlips 73 = .ok (.return_, 1) := by decide +kernel
theorem dX2_slipOf_0 : decode cX2_slipOf 0 = .ok (.iconst 0, 1) := by decide +kernel
theorem dX2_slipOf_1 : decode cX2_slipOf 1 = .ok (.istore_n 3, 1) := by decide +kernel
theorem dX2_slipOf_2 : decode cX2_slipOf 2 = .ok (.iconst 0, 1) := by decide +kernel
theorem dX2_slipOf_3 : decode cX2_slipOf 3 = .ok (.istore 4, 2) := by decide +kernel
theorem dX2_slipOf_5 : decode cX2_slipOf 5 = .ok (.iload 4, 2) := by decide +kernel
theorem dX2_slipOf_7 : decode cX2_slipOf 7 = .ok (.iconst 5, 1) := by decide +kernel
theorem dX2_slipOf_8 : decode cX2_slipOf 8 = .ok (.if_icmp .ge 36, 3) := by decide +kernel
theorem dX2_slipOf_11 : decode cX2_slipOf 11 = .ok (.iload_n 3, 1) := by decide +kernel
theorem dX2_slipOf_12 : decode cX2_slipOf 12 = .ok (.iload_n 1, 1) := by decide +kernel
theorem dX2_slipOf_13 : decode cX2_slipOf 13 = .ok (.iload 4, 2) := by decide +kernel
theorem dX2_slipOf_15 : decode cX2_slipOf 15 = .ok (.invokestatic 56, 3) := by decide +kernel
theorem dX2_slipOf_18 : decode cX2_slipOf 18 = .ok (.ifCond .eq 17, 3) := by decide +kernel
theorem dX2_slipOf_21 : decode cX2_slipOf 21 = .ok (.aload_n 0, 1) := by decide +kernel
theorem dX2_slipOf_22 : decode cX2_slipOf 22 = .ok (.getfield 9, 3) := by decide +kernel
theorem dX2_slipOf_25 : decode cX2_slipOf 25 = .ok (.iload 4, 2) := by decide +kernel
theorem dX2_slipOf_27 : decode cX2_slipOf 27 = .ok (.iload_n 2, 1) := by decide +kernel
theorem dX2_slipOf_28 : decode cX2_slipOf 28 = .ok (.invokestatic 53, 3) := by decide +kernel
theorem dX2_slipOf_31 : decode cX2_slipOf 31 = .ok (.iaload, 1) := by decide +kernel
theorem dX2_slipOf_32 : decode cX2_slipOf 32 = .ok (.goto 4, 3) := by decide +kernel
theorem dX2_slipOf_35 : decode cX2_slipOf 35 = .ok (.iconst 0, 1) := by decide +kernel
theorem dX2_slipOf_36 : decode cX2_slipOf 36 = .ok (.iadd, 1) := by decide +kernel
theorem dX2_slipOf_37 : decode cX2_slipOf 37 = .ok (.istore_n 3, 1) := by decide +kernel
theorem dX2_slipOf_38 : decode cX2_slipOf 38 = .ok (.iinc 4 1, 3) := by decide +kernel
theorem dX2_slipOf_41 : decode cX2_slipOf 41 = .ok (.goto (-36), 3) := by decide +kernel
theorem dX2_slipOf_44 : decode cX2_slipOf 44 = .ok (.iload_n 3, 1) := by decide +kernel
theorem dX2_slipOf_45 : decode cX2_slipOf 45 = .ok (.ireturn, 1) := by decide +kernel
theorem dX2_has_0 : decode cX2_has 0 = .ok (.iload_n 0, 1) := by decide +kernel
theorem dX2_has_1 : decode cX2_has 1 = .ok (.iload_n 1, 1) := by decide +kernel
theorem dX2_has_2 : decode cX2_has 2 = .ok (.iushr, 1) := by decide +kernel
theorem dX2_has_3 : decode cX2_has 3 = .ok (.iconst 1, 1) := by decide +kernel
theorem dX2_has_4 : decode cX2_has 4 = .ok (.iand, 1) := by decide +kernel
theorem dX2_has_5 : decode cX2_has 5 = .ok (.iconst 1, 1) := by decide +kernel
theorem dX2_has_6 : decode cX2_has 6 = .ok (.if_icmp .ne 7, 3) := by decide +kernel
theorem dX2_has_9 : decode cX2_has 9 = .ok (.iconst 1, 1) := by decide +kernel
theorem dX2_has_10 : decode cX2_has 10 = .ok (.goto 4, 3) := by decide +kernel
theorem dX2_has_13 : decode cX2_has 13 = .ok (.iconst 0, 1) := by decide +kernel
theorem dX2_has_14 : decode cX2_has 14 = .ok (.ireturn, 1) := by decide +kernel
theorem dX2_fewestOf_0 : decode cX2_fewestOf 0 = .ok (.ldc 59, 2) := by decide +kernel
theorem dX2_fewestOf_2 : decode cX2_fewestOf 2 = .ok (.istore_n 2, 1) := by decide +kernel
theorem dX2_fewestOf_3 : decode cX2_fewestOf 3 = .ok (.iconst 0, 1) := by decide +kernel
theorem dX2_fewestOf_4 : decode cX2_fewestOf 4 = .ok (.istore_n 3, 1) := by decide +kernel
theorem dX2_fewestOf_5 : decode cX2_fewestOf 5 = .ok (.iload_n 3, 1) := by decide +kernel
theorem dX2_fewestOf_6 : decode cX2_fewestOf 6 = .ok (.bipush 32, 2) := by decide +kernel
theorem dX2_fewestOf_8 : decode cX2_fewestOf 8 = .ok (.if_icmp .ge 27, 3) := by decide +kernel
theorem dX2_fewestOf_11 : decode cX2_fewestOf 11 = .ok (.iload_n 1, 1) := by decide +kernel
theorem dX2_fewestOf_12 : decode cX2_fewestOf 12 = .ok (.iload_n 3, 1) := by decide +kernel
theorem dX2_fewestOf_13 : decode cX2_fewestOf 13 = .ok (.invokestatic 56, 3) := by decide +kernel
theorem dX2_fewestOf_16 : decode cX2_fewestOf 16 = .ok (.ifCond .eq 13, 3) := by decide +kernel
theorem dX2_fewestOf_19 : decode cX2_fewestOf 19 = .ok (.iload_n 3, 1) := by decide +kernel
theorem dX2_fewestOf_20 : decode cX2_fewestOf 20 = .ok (.iload_n 2, 1) := by decide +kernel
theorem dX2_fewestOf_21 : decode cX2_fewestOf 21 = .ok (.invokestatic 60, 3) := by decide +kernel
theorem dX2_fewestOf_24 : decode cX2_fewestOf 24 = .ok (.ifCond .eq 5, 3) := by decide +kernel
theorem dX2_fewestOf_27 : decode cX2_fewestOf 27 = .ok (.iload_n 3, 1) := by decide +kernel
theorem dX2_fewestOf_28 : decode cX2_fewestOf 28 = .ok (.istore_n 2, 1) := by decide +kernel
theorem dX2_fewestOf_29 : decode cX2_fewestOf 29 = .ok (.iinc 3 1, 3) := by decide +kernel
theorem dX2_fewestOf_32 : decode cX2_fewestOf 32 = .ok (.goto (-27), 3) := by decide +kernel
theorem dX2_fewestOf_35 : decode cX2_fewestOf 35 = .ok (.iload_n 2, 1) := by decide +kernel
theorem dX2_fewestOf_36 : decode cX2_fewestOf 36 = .ok (.ireturn, 1) := by decide +kernel
theorem dX2_isFewer_0 : decode cX2_isFewer 0 = .ok (.iload_n 1, 1) := by decide +kernel
theorem dX2_isFewer_1 : decode cX2_isFewer 1 = .ok (.ldc 59, 2) := by decide +kernel
theorem dX2_isFewer_3 : decode cX2_isFewer 3 = .ok (.if_icmp .eq 14, 3) := by decide +kernel
theorem dX2_isFewer_6 : decode cX2_isFewer 6 = .ok (.iload_n 0, 1) := by decide +kernel
theorem dX2_isFewer_7 : decode cX2_isFewer 7 = .ok (.invokestatic 63, 3) := by decide +kernel
theorem dX2_isFewer_10 : decode cX2_isFewer 10 = .ok (.iload_n 1, 1) := by decide +kernel
theorem dX2_isFewer_11 : decode cX2_isFewer 11 = .ok (.invokestatic 63, 3) := by decide +kernel
theorem dX2_isFewer_14 : decode cX2_isFewer 14 = .ok (.if_icmp .ge 7, 3) := by decide +kernel
theorem dX2_isFewer_17 : decode cX2_isFewer 17 = .ok (.iconst 1, 1) := by decide +kernel
theorem dX2_isFewer_18 : decode cX2_isFewer 18 = .ok (.goto 4, 3) := by decide +kernel
theorem dX2_isFewer_21 : decode cX2_isFewer 21 = .ok (.iconst 0, 1) := by decide +kernel
theorem dX2_isFewer_22 : decode cX2_isFewer 22 = .ok (.ireturn, 1) := by decide +kernel
theorem dX2_setsWith_0 : decode cX2_setsWith 0 = .ok (.iconst 0, 1) := by decide +kernel
theorem dX2_setsWith_1 : decode cX2_setsWith 1 = .ok (.istore_n 3, 1) := by decide +kernel
theorem dX2_setsWith_2 : decode cX2_setsWith 2 = .ok (.iconst 0, 1) := by decide +kernel
theorem dX2_setsWith_3 : decode cX2_setsWith 3 = .ok (.istore 4, 2) := by decide +kernel
theorem dX2_setsWith_5 : decode cX2_setsWith 5 = .ok (.iload 4, 2) := by decide +kernel
theorem dX2_setsWith_7 : decode cX2_setsWith 7 = .ok (.bipush 32, 2) := by decide +kernel
theorem dX2_setsWith_9 : decode cX2_setsWith 9 = .ok (.if_icmp .ge 30, 3) := by decide +kernel
theorem dX2_setsWith_12 : decode cX2_setsWith 12 = .ok (.iload_n 1, 1) := by decide +kernel
theorem dX2_setsWith_13 : decode cX2_setsWith 13 = .ok (.iload 4, 2) := by decide +kernel
theorem dX2_setsWith_15 : decode cX2_setsWith 15 = .ok (.invokestatic 56, 3) := by decide +kernel
theorem dX2_setsWith_18 : decode cX2_setsWith 18 = .ok (.ifCond .eq 15, 3) := by decide +kernel
theorem dX2_setsWith_21 : decode cX2_setsWith 21 = .ok (.iload 4, 2) := by decide +kernel
theorem dX2_setsWith_23 : decode cX2_setsWith 23 = .ok (.iload_n 2, 1) := by decide +kernel
theorem dX2_setsWith_24 : decode cX2_setsWith 24 = .ok (.invokestatic 56, 3) := by decide +kernel
theorem dX2_setsWith_27 : decode cX2_setsWith 27 = .ok (.ifCond .eq 6, 3) := by decide +kernel
theorem dX2_setsWith_30 : decode cX2_setsWith 30 = .ok (.iinc 3 1, 3) := by decide +kernel
theorem dX2_setsWith_33 : decode cX2_setsWith 33 = .ok (.iinc 4 1, 3) := by decide +kernel
theorem dX2_setsWith_36 : decode cX2_setsWith 36 = .ok (.goto (-31), 3) := by decide +kernel
theorem dX2_setsWith_39 : decode cX2_setsWith 39 = .ok (.iload_n 3, 1) := by decide +kernel
theorem dX2_setsWith_40 : decode cX2_setsWith 40 = .ok (.ireturn, 1) := by decide +kernel
theorem dX2_fraction_0 : decode cX2_fraction 0 = .ok (.iload_n 1, 1) := by decide +kernel
theorem dX2_fraction_1 : decode cX2_fraction 1 = .ok (.ifCond .ne 5, 3) := by decide +kernel
theorem dX2_fraction_4 : decode cX2_fraction 4 = .ok (.iload_n 3, 1) := by decide +kernel
theorem dX2_fraction_5 : decode cX2_fraction 5 = .ok (.ireturn, 1) := by decide +kernel
theorem dX2_fraction_6 : decode cX2_fraction 6 = .ok (.iload_n 1, 1) := by decide +kernel
theorem dX2_fraction_7 : decode cX2_fraction 7 = .ok (.istore 4, 2) := by decide +kernel
theorem dX2_fraction_9 : decode cX2_fraction 9 = .ok (.iload 4, 2) := by decide +kernel
theorem dX2_fraction_11 : decode cX2_fraction 11 = .ok (.iconst 1, 1) := by decide +kernel
theorem dX2_fraction_12 : decode cX2_fraction 12 = .ok (.if_icmp .le 23, 3) := by decide +kernel
theorem dX2_fraction_15 : decode cX2_fraction 15 = .ok (.iload_n 1, 1) := by decide +kernel
theorem dX2_fraction_16 : decode cX2_fraction 16 = .ok (.iload 4, 2) := by decide +kernel
theorem dX2_fraction_18 : decode cX2_fraction 18 = .ok (.irem, 1) := by decide +kernel
theorem dX2_fraction_19 : decode cX2_fraction 19 = .ok (.ifCond .ne 10, 3) := by decide +kernel
theorem dX2_fraction_22 : decode cX2_fraction 22 = .ok (.iload_n 2, 1) := by decide +kernel
theorem dX2_fraction_23 : decode cX2_fraction 23 = .ok (.iload 4, 2) := by decide +kernel
theorem dX2_fraction_25 : decode cX2_fraction 25 = .ok (.irem, 1) := by decide +kernel
theorem dX2_fraction_26 : decode cX2_fraction 26 = .ok (.ifCond .eq 9, 3) := by decide +kernel
theorem dX2_fraction_29 : decode cX2_fraction 29 = .ok (.iinc 4 (-1), 3) := by decide +kernel
theorem dX2_fraction_32 : decode cX2_fraction 32 = .ok (.goto (-23), 3) := by decide +kernel
theorem dX2_fraction_35 : decode cX2_fraction 35 = .ok (.iload_n 3, 1) := by decide +kernel
theorem dX2_fraction_36 : decode cX2_fraction 36 = .ok (.ifCond .ne 7, 3) := by decide +kernel
theorem dX2_fraction_39 : decode cX2_fraction 39 = .ok (.iload_n 1, 1) := by decide +kernel
theorem dX2_fraction_40 : decode cX2_fraction 40 = .ok (.goto 4, 3) := by decide +kernel
theorem dX2_fraction_43 : decode cX2_fraction 43 = .ok (.iload_n 2, 1) := by decide +kernel
theorem dX2_fraction_44 : decode cX2_fraction 44 = .ok (.iload 4, 2) := by decide +kernel
theorem dX2_fraction_46 : decode cX2_fraction 46 = .ok (.iconst 1, 1) := by decide +kernel
theorem dX2_fraction_47 : decode cX2_fraction 47 = .ok (.invokestatic 69, 3) := by decide +kernel
theorem dX2_fraction_50 : decode cX2_fraction 50 = .ok (.idiv, 1) := by decide +kernel
theorem dX2_fraction_51 : decode cX2_fraction 51 = .ok (.ireturn, 1) := by decide +kernel
theorem dX2_rightBy_0 : decode cX2_rightBy 0 = .ok (.iconst 0, 1) := by decide +kernel
theorem dX2_rightBy_1 : decode cX2_rightBy 1 = .ok (.istore 4, 2) := by decide +kernel
theorem dX2_rightBy_3 : decode cX2_rightBy 3 = .ok (.ldc 59, 2) := by decide +kernel
theorem dX2_rightBy_5 : decode cX2_rightBy 5 = .ok (.istore 5, 2) := by decide +kernel
theorem dX2_rightBy_7 : decode cX2_rightBy 7 = .ok (.iconst 0, 1) := by decide +kernel
theorem dX2_rightBy_8 : decode cX2_rightBy 8 = .ok (.istore 6, 2) := by decide +kernel
theorem dX2_rightBy_10 : decode cX2_rightBy 10 = .ok (.iload 6, 2) := by decide +kernel
theorem dX2_rightBy_12 : decode cX2_rightBy 12 = .ok (.iconst 3, 1) := by decide +kernel
theorem dX2_rightBy_13 : decode cX2_rightBy 13 = .ok (.if_icmp .ge 90, 3) := by decide +kernel
theorem dX2_rightBy_16 : decode cX2_rightBy 16 = .ok (.aload_n 1, 1) := by decide +kernel
theorem dX2_rightBy_17 : decode cX2_rightBy 17 = .ok (.iload_n 2, 1) := by decide +kernel
theorem dX2_rightBy_18 : decode cX2_rightBy 18 = .ok (.iload 6, 2) := by decide +kernel
theorem dX2_rightBy_20 : decode cX2_rightBy 20 = .ok (.invokestatic 53, 3) := by decide +kernel
theorem dX2_rightBy_23 : decode cX2_rightBy 23 = .ok (.invokevirtual 74, 3) := by decide +kernel
theorem dX2_rightBy_26 : decode cX2_rightBy 26 = .ok (.istore 7, 2) := by decide +kernel
theorem dX2_rightBy_28 : decode cX2_rightBy 28 = .ok (.iload 7, 2) := by decide +kernel
theorem dX2_rightBy_30 : decode cX2_rightBy 30 = .ok (.ifCond .ne 6, 3) := by decide +kernel
theorem dX2_rightBy_33 : decode cX2_rightBy 33 = .ok (.goto 64, 3) := by decide +kernel
theorem dX2_rightBy_36 : decode cX2_rightBy 36 = .ok (.aload_n 1, 1) := by decide +kernel
theorem dX2_rightBy_37 : decode cX2_rightBy 37 = .ok (.iload 7, 2) := by decide +kernel
theorem dX2_rightBy_39 : decode cX2_rightBy 39 = .ok (.invokestatic 77, 3) := by decide +kernel
theorem dX2_rightBy_42 : decode cX2_rightBy 42 = .ok (.astore 8, 2) := by decide +kernel
theorem dX2_rightBy_44 : decode cX2_rightBy 44 = .ok (.aload 8, 2) := by decide +kernel
theorem dX2_rightBy_46 : decode cX2_rightBy 46 = .ok (.ifnonnull 6, 3) := by decide +kernel
theorem dX2_rightBy_49 : decode cX2_rightBy 49 = .ok (.ldc 59, 2) := by decide +kernel
theorem dX2_rightBy_51 : decode cX2_rightBy 51 = .ok (.ireturn, 1) := by decide +kernel
theorem dX2_rightBy_52 : decode cX2_rightBy 52 = .ok (.iload 4, 2) := by decide +kernel
theorem dX2_rightBy_54 : decode cX2_rightBy 54 = .ok (.aload 8, 2) := by decide +kernel
theorem dX2_rightBy_56 : decode cX2_rightBy 56 = .ok (.getfield 81, 3) := by decide +kernel
theorem dX2_rightBy_59 : decode cX2_rightBy 59 = .ok (.iadd, 1) := by decide +kernel
theorem dX2_rightBy_60 : decode cX2_rightBy 60 = .ok (.istore 4, 2) := by decide +kernel
theorem dX2_rightBy_62 : decode cX2_rightBy 62 = .ok (.iload_n 3, 1) := by decide +kernel
theorem dX2_rightBy_63 : decode cX2_rightBy 63 = .ok (.iconst 1, 1) := by decide +kernel
theorem dX2_rightBy_64 : decode cX2_rightBy 64 = .ok (.iload 6, 2) := by decide +kernel
theorem dX2_rightBy_66 : decode cX2_rightBy 66 = .ok (.iadd, 1) := by decide +kernel
theorem dX2_rightBy_67 : decode cX2_rightBy 67 = .ok (.if_icmp .ne 13, 3) := by decide +kernel
theorem dX2_rightBy_70 : decode cX2_rightBy 70 = .ok (.aload 8, 2) := by decide +kernel
theorem dX2_rightBy_72 : decode cX2_rightBy 72 = .ok (.getfield 86, 3) := by decide +kernel
theorem dX2_rightBy_75 : decode cX2_rightBy 75 = .ok (.istore 5, 2) := by decide +kernel
theorem dX2_rightBy_77 : decode cX2_rightBy 77 = .ok (.goto 20, 3) := by decide +kernel
theorem dX2_rightBy_80 : decode cX2_rightBy 80 = .ok (.iload_n 3, 1) := by decide +kernel
theorem dX2_rightBy_81 : decode cX2_rightBy 81 = .ok (.iconst 4, 1) := by decide +kernel
theorem dX2_rightBy_82 : decode cX2_rightBy 82 = .ok (.iload 6, 2) := by decide +kernel
theorem dX2_rightBy_84 : decode cX2_rightBy 84 = .ok (.iadd, 1) := by decide +kernel
theorem dX2_rightBy_85 : decode cX2_rightBy 85 = .ok (.if_icmp .ne 12, 3) := by decide +kernel
theorem dX2_rightBy_88 : decode cX2_rightBy 88 = .ok (.aload 8, 2) := by decide +kernel
theorem dX2_rightBy_90 : decode cX2_rightBy 90 = .ok (.iload 7, 2) := by decide +kernel
theorem dX2_rightBy_92 : decode cX2_rightBy 92 = .ok (.invokestatic 89, 3) := by decide +kernel
theorem dX2_rightBy_95 : decode cX2_rightBy 95 = .ok (.istore 5, 2) := by decide +kernel
theorem dX2_rightBy_97 : decode cX2_rightBy 97 = .ok (.iinc 6 1, 3) := by decide +kernel
theorem dX2_rightBy_100 : decode cX2_rightBy 100 = .ok (.goto (-90), 3) := by decide +kernel
theorem dX2_rightBy_103 : decode cX2_rightBy 103 = .ok (.iload_n 3, 1) := by decide +kernel
theorem dX2_rightBy_104 : decode cX2_rightBy 104 = .ok (.ifCond .ne 8, 3) := by decide +kernel
theorem dX2_rightBy_107 : decode cX2_rightBy 107 = .ok (.iload 4, 2) := by decide +kernel
theorem dX2_rightBy_109 : decode cX2_rightBy 109 = .ok (.goto 5, 3) := by decide +kernel
theorem dX2_rightBy_112 : decode cX2_rightBy 112 = .ok (.iload 5, 2) := by decide +kernel
theorem dX2_rightBy_114 : decode cX2_rightBy 114 = .ok (.ireturn, 1) := by decide +kernel
theorem dX2_cheapestFor_0 : decode cX2_cheapestFor 0 = .ok (.aconst_null, 1) := by decide +kernel
theorem dX2_cheapestFor_1 : decode cX2_cheapestFor 1 = .ok (.astore_n 2, 1) := by decide +kernel
theorem dX2_cheapestFor_2 : decode cX2_cheapestFor 2 = .ok (.iconst 0, 1) := by decide +kernel
theorem dX2_cheapestFor_3 : decode cX2_cheapestFor 3 = .ok (.istore_n 3, 1) := by decide +kernel
theorem dX2_cheapestFor_4 : decode cX2_cheapestFor 4 = .ok (.iload_n 3, 1) := by decide +kernel
theorem dX2_cheapestFor_5 : decode cX2_cheapestFor 5 = .ok (.aload_n 0, 1) := by decide +kernel
theorem dX2_cheapestFor_6 : decode cX2_cheapestFor 6 = .ok (.getfield 22, 3) := by decide +kernel
theorem dX2_cheapestFor_9 : decode cX2_cheapestFor 9 = .ok (.if_icmp .ge 51, 3) := by decide +kernel
theorem dX2_cheapestFor_12 : decode cX2_cheapestFor 12 = .ok (.aload_n 0, 1) := by decide +kernel
theorem dX2_cheapestFor_13 : decode cX2_cheapestFor 13 = .ok (.iload_n 3, 1) := by decide +kernel
theorem dX2_cheapestFor_14 : decode cX2_cheapestFor 14 = .ok (.invokevirtual 93, 3) := by decide +kernel
theorem dX2_cheapestFor_17 : decode cX2_cheapestFor 17 = .ok (.astore 4, 2) := by decide +kernel
theorem dX2_cheapestFor_19 : decode cX2_cheapestFor 19 = .ok (.aload 4, 2) := by decide +kernel
theorem dX2_cheapestFor_21 : decode cX2_cheapestFor 21 = .ok (.ifnull 33, 3) := by decide +kernel
theorem dX2_cheapestFor_24 : decode cX2_cheapestFor 24 = .ok (.aload_n 2, 1) := by decide +kernel
theorem dX2_cheapestFor_25 : decode cX2_cheapestFor 25 = .ok (.ifnull 15, 3) := by decide +kernel
theorem dX2_cheapestFor_28 : decode cX2_cheapestFor 28 = .ok (.aload 4, 2) := by decide +kernel
theorem dX2_cheapestFor_30 : decode cX2_cheapestFor 30 = .ok (.getfield 81, 3) := by decide +kernel
theorem dX2_cheapestFor_33 : decode cX2_cheapestFor 33 = .ok (.aload_n 2, 1) := by decide +kernel
theorem dX2_cheapestFor_34 : decode cX2_cheapestFor 34 = .ok (.getfield 81, 3) := by decide +kernel
theorem dX2_cheapestFor_37 : decode cX2_cheapestFor 37 = .ok (.if_icmp .ge 17, 3) := by decide +kernel
theorem dX2_cheapestFor_40 : decode cX2_cheapestFor 40 = .ok (.aload 4, 2) := by decide +kernel
theorem dX2_cheapestFor_42 : decode cX2_cheapestFor 42 = .ok (.iload_n 1, 1) := by decide +kernel
theorem dX2_cheapestFor_43 : decode cX2_cheapestFor 43 = .ok (.invokestatic 89, 3) := by decide +kernel
theorem dX2_cheapestFor_46 : decode cX2_cheapestFor 46 = .ok (.ldc 59, 2) := by decide +kernel
theorem dX2_cheapestFor_48 : decode cX2_cheapestFor 48 = .ok (.if_icmp .eq 6, 3) := by decide +kernel
theorem dX2_cheapestFor_51 : decode cX2_cheapestFor 51 = .ok (.aload 4, 2) := by decide +kernel
theorem dX2_cheapestFor_53 : decode cX2_cheapestFor 53 = .ok (.astore_n 2, 1) := by decide +kernel
theorem dX2_cheapestFor_54 : decode cX2_cheapestFor 54 = .ok (.iinc 3 1, 3) := by decide +kernel
theorem dX2_cheapestFor_57 : decode cX2_cheapestFor 57 = .ok (.goto (-53), 3) := by decide +kernel
theorem dX2_cheapestFor_60 : decode cX2_cheapestFor 60 = .ok (.aload_n 2, 1) := by decide +kernel
theorem dX2_cheapestFor_61 : decode cX2_cheapestFor 61 = .ok (.areturn, 1) := by decide +kernel
theorem dX2_leastTold_0 : decode cX2_leastTold 0 = .ok (.bipush (-99), 2) := by decide +kernel
theorem dX2_leastTold_2 : decode cX2_leastTold 2 = .ok (.istore_n 2, 1) := by decide +kernel
theorem dX2_leastTold_3 : decode cX2_leastTold 3 = .ok (.iload_n 2, 1) := by decide +kernel
theorem dX2_leastTold_4 : decode cX2_leastTold 4 = .ok (.bipush 99, 2) := by decide +kernel
theorem dX2_leastTold_6 : decode cX2_leastTold 6 = .ok (.if_icmp .gt 20, 3) := by decide +kernel
theorem dX2_leastTold_9 : decode cX2_leastTold 9 = .ok (.aload_n 0, 1) := by decide +kernel
theorem dX2_leastTold_10 : decode cX2_leastTold 10 = .ok (.iload_n 2, 1) := by decide +kernel
theorem dX2_leastTold_11 : decode cX2_leastTold 11 = .ok (.invokevirtual 97, 3) := by decide +kernel
theorem dX2_leastTold_14 : decode cX2_leastTold 14 = .ok (.iload_n 1, 1) := by decide +kernel
theorem dX2_leastTold_15 : decode cX2_leastTold 15 = .ok (.if_icmp .ne 5, 3) := by decide +kernel
theorem dX2_leastTold_18 : decode cX2_leastTold 18 = .ok (.iload_n 2, 1) := by decide +kernel
theorem dX2_leastTold_19 : decode cX2_leastTold 19 = .ok (.ireturn, 1) := by decide +kernel
theorem dX2_leastTold_20 : decode cX2_leastTold 20 = .ok (.iinc 2 1, 3) := by decide +kernel
theorem dX2_leastTold_23 : decode cX2_leastTold 23 = .ok (.goto (-20), 3) := by decide +kernel
theorem dX2_leastTold_26 : decode cX2_leastTold 26 = .ok (.ldc 59, 2) := by decide +kernel
theorem dX2_leastTold_28 : decode cX2_leastTold 28 = .ok (.ireturn, 1) := by decide +kernel
theorem dX2_mostPadding_0 : decode cX2_mostPadding 0 = .ok (.ldc 59, 2) := by decide +kernel
theorem dX2_mostPadding_2 : decode cX2_mostPadding 2 = .ok (.istore 5, 2) := by decide +kernel
theorem dX2_mostPadding_4 : decode cX2_mostPadding 4 = .ok (.ldc 59, 2) := by decide +kernel
theorem dX2_mostPadding_6 : decode cX2_mostPadding 6 = .ok (.istore 6, 2) := by decide +kernel
theorem dX2_mostPadding_8 : decode cX2_mostPadding 8 = .ok (.iconst 0, 1) := by decide +kernel
theorem dX2_mostPadding_9 : decode cX2_mostPadding 9 = .ok (.istore 7, 2) := by decide +kernel
theorem dX2_mostPadding_11 : decode cX2_mostPadding 11 = .ok (.iload 7, 2) := by decide +kernel
theorem dX2_mostPadding_13 : decode cX2_mostPadding 13 = .ok (.aload_n 1, 1) := by decide +kernel
theorem dX2_mostPadding_14 : decode cX2_mostPadding 14 = .ok (.getfield 22, 3) := by decide +kernel
theorem dX2_mostPadding_17 : decode cX2_mostPadding 17 = .ok (.if_icmp .ge 54, 3) := by decide +kernel
theorem dX2_mostPadding_20 : decode cX2_mostPadding 20 = .ok (.aload_n 1, 1) := by decide +kernel
theorem dX2_mostPadding_21 : decode cX2_mostPadding 21 = .ok (.iload 7, 2) := by decide +kernel
theorem dX2_mostPadding_23 : decode cX2_mostPadding 23 = .ok (.iload_n 2, 1) := by decide +kernel
theorem dX2_mostPadding_24 : decode cX2_mostPadding 24 = .ok (.iload_n 3, 1) := by decide +kernel
theorem dX2_mostPadding_25 : decode cX2_mostPadding 25 = .ok (.invokestatic 100, 3) := by decide +kernel
theorem dX2_mostPadding_28 : decode cX2_mostPadding 28 = .ok (.istore 8, 2) := by decide +kernel
theorem dX2_mostPadding_30 : decode cX2_mostPadding 30 = .ok (.iload 8, 2) := by decide +kernel
theorem dX2_mostPadding_32 : decode cX2_mostPadding 32 = .ok (.ldc 59, 2) := by decide +kernel
theorem dX2_mostPadding_34 : decode cX2_mostPadding 34 = .ok (.if_icmp .eq 31, 3) := by decide +kernel
theorem dX2_mostPadding_37 : decode cX2_mostPadding 37 = .ok (.iload 5, 2) := by decide +kernel
theorem dX2_mostPadding_39 : decode cX2_mostPadding 39 = .ok (.ldc 59, 2) := by decide +kernel
theorem dX2_mostPadding_41 : decode cX2_mostPadding 41 = .ok (.if_icmp .eq 16, 3) := by decide +kernel
theorem dX2_mostPadding_44 : decode cX2_mostPadding 44 = .ok (.iload 8, 2) := by decide +kernel
theorem dX2_mostPadding_46 : decode cX2_mostPadding 46 = .ok (.invokestatic 104, 3) := by decide +kernel
theorem dX2_mostPadding_49 : decode cX2_mostPadding 49 = .ok (.iload 6, 2) := by decide +kernel
theorem dX2_mostPadding_51 : decode cX2_mostPadding 51 = .ok (.invokestatic 104, 3) := by decide +kernel
theorem dX2_mostPadding_54 : decode cX2_mostPadding 54 = .ok (.if_icmp .le 11, 3) := by decide +kernel
theorem dX2_mostPadding_57 : decode cX2_mostPadding 57 = .ok (.iload 7, 2) := by decide +kernel
theorem dX2_mostPadding_59 : decode cX2_mostPadding 59 = .ok (.istore 5, 2) := by decide +kernel
theorem dX2_mostPadding_61 : decode cX2_mostPadding 61 = .ok (.iload 8, 2) := by decide +kernel
theorem dX2_mostPadding_63 : decode cX2_mostPadding 63 = .ok (.istore 6, 2) := by decide +kernel
theorem dX2_mostPadding_65 : decode cX2_mostPadding 65 = .ok (.iinc 7 1, 3) := by decide +kernel
theorem dX2_mostPadding_68 : decode cX2_mostPadding 68 = .ok (.goto (-57), 3) := by decide +kernel
theorem dX2_mostPadding_71 : decode cX2_mostPadding 71 = .ok (.iload 4, 2) := by decide +kernel
theorem dX2_mostPadding_73 : decode cX2_mostPadding 73 = .ok (.ifCond .ne 8, 3) := by decide +kernel
theorem dX2_mostPadding_76 : decode cX2_mostPadding 76 = .ok (.iload 5, 2) := by decide +kernel
theorem dX2_mostPadding_78 : decode cX2_mostPadding 78 = .ok (.goto 5, 3) := by decide +kernel
theorem dX2_mostPadding_81 : decode cX2_mostPadding 81 = .ok (.iload 6, 2) := by decide +kernel
theorem dX2_mostPadding_83 : decode cX2_mostPadding 83 = .ok (.ireturn, 1) := by decide +kernel
theorem dX2_paddedBy_0 : decode cX2_paddedBy 0 = .ok (.iconst 0, 1) := by decide +kernel
theorem dX2_paddedBy_1 : decode cX2_paddedBy 1 = .ok (.istore 4, 2) := by decide +kernel
theorem dX2_paddedBy_3 : decode cX2_paddedBy 3 = .ok (.iconst 0, 1) := by decide +kernel
theorem dX2_paddedBy_4 : decode cX2_paddedBy 4 = .ok (.istore 5, 2) := by decide +kernel
theorem dX2_paddedBy_6 : decode cX2_paddedBy 6 = .ok (.iconst 0, 1) := by decide +kernel
theorem dX2_paddedBy_7 : decode cX2_paddedBy 7 = .ok (.istore 6, 2) := by decide +kernel
theorem dX2_paddedBy_9 : decode cX2_paddedBy 9 = .ok (.iload 6, 2) := by decide +kernel
theorem dX2_paddedBy_11 : decode cX2_paddedBy 11 = .ok (.aload_n 0, 1) := by decide +kernel
theorem dX2_paddedBy_12 : decode cX2_paddedBy 12 = .ok (.getfield 43, 3) := by decide +kernel
theorem dX2_paddedBy_15 : decode cX2_paddedBy 15 = .ok (.if_icmp .ge 55, 3) := by decide +kernel
theorem dX2_paddedBy_18 : decode cX2_paddedBy 18 = .ok (.aload_n 0, 1) := by decide +kernel
theorem dX2_paddedBy_19 : decode cX2_paddedBy 19 = .ok (.iload 6, 2) := by decide +kernel
theorem dX2_paddedBy_21 : decode cX2_paddedBy 21 = .ok (.iload_n 1, 1) := by decide +kernel
theorem dX2_paddedBy_22 : decode cX2_paddedBy 22 = .ok (.invokevirtual 107, 3) := by decide +kernel
theorem dX2_paddedBy_25 : decode cX2_paddedBy 25 = .ok (.ifCond .eq 39, 3) := by decide +kernel
theorem dX2_paddedBy_28 : decode cX2_paddedBy 28 = .ok (.aload_n 0, 1) := by decide +kernel
theorem dX2_paddedBy_29 : decode cX2_paddedBy 29 = .ok (.iload 6, 2) := by decide +kernel
theorem dX2_paddedBy_31 : decode cX2_paddedBy 31 = .ok (.iload_n 2, 1) := by decide +kernel
theorem dX2_paddedBy_32 : decode cX2_paddedBy 32 = .ok (.invokevirtual 46, 3) := by decide +kernel
theorem dX2_paddedBy_35 : decode cX2_paddedBy 35 = .ok (.ifCond .eq 29, 3) := by decide +kernel
theorem dX2_paddedBy_38 : decode cX2_paddedBy 38 = .ok (.aload_n 0, 1) := by decide +kernel
theorem dX2_paddedBy_39 : decode cX2_paddedBy 39 = .ok (.iload 6, 2) := by decide +kernel
theorem dX2_paddedBy_41 : decode cX2_paddedBy 41 = .ok (.iconst 3, 1) := by decide +kernel
theorem dX2_paddedBy_42 : decode cX2_paddedBy 42 = .ok (.invokevirtual 50, 3) := by decide +kernel
theorem dX2_paddedBy_45 : decode cX2_paddedBy 45 = .ok (.iload_n 3, 1) := by decide +kernel
theorem dX2_paddedBy_46 : decode cX2_paddedBy 46 = .ok (.if_icmp .ne 18, 3) := by decide +kernel
theorem dX2_paddedBy_49 : decode cX2_paddedBy 49 = .ok (.iload 4, 2) := by decide +kernel
theorem dX2_paddedBy_51 : decode cX2_paddedBy 51 = .ok (.aload_n 0, 1) := by decide +kernel
theorem dX2_paddedBy_52 : decode cX2_paddedBy 52 = .ok (.iload 6, 2) := by decide +kernel
theorem dX2_paddedBy_54 : decode cX2_paddedBy 54 = .ok (.iconst 5, 1) := by decide +kernel
theorem dX2_paddedBy_55 : decode cX2_paddedBy 55 = .ok (.invokevirtual 50, 3) := by decide +kernel
theorem dX2_paddedBy_58 : decode cX2_paddedBy 58 = .ok (.iadd, 1) := by decide +kernel
theorem dX2_paddedBy_59 : decode cX2_paddedBy 59 = .ok (.istore 4, 2) := by decide +kernel
theorem dX2_paddedBy_61 : decode cX2_paddedBy 61 = .ok (.iconst 1, 1) := by decide +kernel
theorem dX2_paddedBy_62 : decode cX2_paddedBy 62 = .ok (.istore 5, 2) := by decide +kernel
theorem dX2_paddedBy_64 : decode cX2_paddedBy 64 = .ok (.iinc 6 1, 3) := by decide +kernel
theorem dX2_paddedBy_67 : decode cX2_paddedBy 67 = .ok (.goto (-58), 3) := by decide +kernel
theorem dX2_paddedBy_70 : decode cX2_paddedBy 70 = .ok (.iload 5, 2) := by decide +kernel
theorem dX2_paddedBy_72 : decode cX2_paddedBy 72 = .ok (.ifCond .eq 8, 3) := by decide +kernel
theorem dX2_paddedBy_75 : decode cX2_paddedBy 75 = .ok (.iload 4, 2) := by decide +kernel
theorem dX2_paddedBy_77 : decode cX2_paddedBy 77 = .ok (.goto 5, 3) := by decide +kernel
theorem dX2_paddedBy_80 : decode cX2_paddedBy 80 = .ok (.ldc 59, 2) := by decide +kernel
theorem dX2_paddedBy_82 : decode cX2_paddedBy 82 = .ok (.ireturn, 1) := by decide +kernel
theorem dX2_swapsThatGive_0 : decode cX2_swapsThatGive 0 = .ok (.iconst 0, 1) := by decide +kernel
theorem dX2_swapsThatGive_1 : decode cX2_swapsThatGive 1 = .ok (.istore 6, 2) := by decide +kernel
theorem dX2_swapsThatGive_3 : decode cX2_swapsThatGive 3 = .ok (.ldc 59, 2) := by decide +kernel
theorem dX2_swapsThatGive_5 : decode cX2_swapsThatGive 5 = .ok (.istore 7, 2) := by decide +kernel
theorem dX2_swapsThatGive_7 : decode cX2_swapsThatGive 7 = .ok (.iconst 0, 1) := by decide +kernel
theorem dX2_swapsThatGive_8 : decode cX2_swapsThatGive 8 = .ok (.istore 8, 2) := by decide +kernel
theorem dX2_swapsThatGive_10 : decode cX2_swapsThatGive 10 = .ok (.iload 8, 2) := by decide +kernel
theorem dX2_swapsThatGive_12 : decode cX2_swapsThatGive 12 = .ok (.aload_n 1, 1) := by decide +kernel
theorem dX2_swapsThatGive_13 : decode cX2_swapsThatGive 13 = .ok (.getfield 110, 3) := by decide +kernel
theorem dX2_swapsThatGive_16 : decode cX2_swapsThatGive 16 = .ok (.if_icmp .ge 69, 3) := by decide +kernel
theorem dX2_swapsThatGive_19 : decode cX2_swapsThatGive 19 = .ok (.iload 8, 2) := by decide +kernel
theorem dX2_swapsThatGive_21 : decode cX2_swapsThatGive 21 = .ok (.iconst 1, 1) := by decide +kernel
theorem dX2_swapsThatGive_22 : decode cX2_swapsThatGive 22 = .ok (.iadd, 1) := by decide +kernel
theorem dX2_swapsThatGive_23 : decode cX2_swapsThatGive 23 = .ok (.istore 9, 2) := by decide +kernel
theorem dX2_swapsThatGive_25 : decode cX2_swapsThatGive 25 = .ok (.iload 9, 2) := by decide +kernel
theorem dX2_swapsThatGive_27 : decode cX2_swapsThatGive 27 = .ok (.aload_n 1, 1) := by decide +kernel
theorem dX2_swapsThatGive_28 : decode cX2_swapsThatGive 28 = .ok (.getfield 110, 3) := by decide +kernel
theorem dX2_swapsThatGive_31 : decode cX2_swapsThatGive 31 = .ok (.if_icmp .ge 48, 3) := by decide +kernel
theorem dX2_swapsThatGive_34 : decode cX2_swapsThatGive 34 = .ok (.aload_n 1, 1) := by decide +kernel
theorem dX2_swapsThatGive_35 : decode cX2_swapsThatGive 35 = .ok (.iload 8, 2) := by decide +kernel
theorem dX2_swapsThatGive_37 : decode cX2_swapsThatGive 37 = .ok (.iload 9, 2) := by decide +kernel
theorem dX2_swapsThatGive_39 : decode cX2_swapsThatGive 39 = .ok (.aload_n 2, 1) := by decide +kernel
theorem dX2_swapsThatGive_40 : decode cX2_swapsThatGive 40 = .ok (.iload_n 3, 1) := by decide +kernel
theorem dX2_swapsThatGive_41 : decode cX2_swapsThatGive 41 = .ok (.iload 4, 2) := by decide +kernel
theorem dX2_swapsThatGive_43 : decode cX2_swapsThatGive 43 = .ok (.invokestatic 113, 3) := by decide +kernel
theorem dX2_swapsThatGive_46 : decode cX2_swapsThatGive 46 = .ok (.ifCond .eq 27, 3) := by decide +kernel
theorem dX2_swapsThatGive_49 : decode cX2_swapsThatGive 49 = .ok (.iinc 6 1, 3) := by decide +kernel
theorem dX2_swapsThatGive_52 : decode cX2_swapsThatGive 52 = .ok (.iload 7, 2) := by decide +kernel
theorem dX2_swapsThatGive_54 : decode cX2_swapsThatGive 54 = .ok (.ldc 59, 2) := by decide +kernel
theorem dX2_swapsThatGive_56 : decode cX2_swapsThatGive 56 = .ok (.if_icmp .ne 13, 3) := by decide +kernel
theorem dX2_swapsThatGive_59 : decode cX2_swapsThatGive 59 = .ok (.iconst 4, 1) := by decide +kernel
theorem dX2_swapsThatGive_60 : decode cX2_swapsThatGive 60 = .ok (.iload 8, 2) := by decide +kernel
theorem dX2_swapsThatGive_62 : decode cX2_swapsThatGive 62 = .ok (.imul, 1) := by decide +kernel
theorem dX2_swapsThatGive_63 : decode cX2_swapsThatGive 63 = .ok (.iload 9, 2) := by decide +kernel
theorem dX2_swapsThatGive_65 : decode cX2_swapsThatGive 65 = .ok (.iadd, 1) := by decide +kernel
theorem dX2_swapsThatGive_66 : decode cX2_swapsThatGive 66 = .ok (.goto 5, 3) := by decide +kernel
theorem dX2_swapsThatGive_69 : decode cX2_swapsThatGive 69 = .ok (.iload 7, 2) := by decide +kernel
theorem dX2_swapsThatGive_71 : decode cX2_swapsThatGive 71 = .ok (.istore 7, 2) := by decide +kernel
theorem dX2_swapsThatGive_73 : decode cX2_swapsThatGive 73 = .ok (.iinc 9 1, 3) := by decide +kernel
theorem dX2_swapsThatGive_76 : decode cX2_swapsThatGive 76 = .ok (.goto (-51), 3) := by decide +kernel
theorem dX2_swapsThatGive_79 : decode cX2_swapsThatGive 79 = .ok (.iinc 8 1, 3) := by decide +kernel
theorem dX2_swapsThatGive_82 : decode cX2_swapsThatGive 82 = .ok (.goto (-72), 3) := by decide +kernel
theorem dX2_swapsThatGive_85 : decode cX2_swapsThatGive 85 = .ok (.iload 5, 2) := by decide +kernel
theorem dX2_swapsThatGive_87 : decode cX2_swapsThatGive 87 = .ok (.ifCond .ne 8, 3) := by decide +kernel
theorem dX2_swapsThatGive_90 : decode cX2_swapsThatGive 90 = .ok (.iload 6, 2) := by decide +kernel
theorem dX2_swapsThatGive_92 : decode cX2_swapsThatGive 92 = .ok (.goto 5, 3) := by decide +kernel
theorem dX2_swapsThatGive_95 : decode cX2_swapsThatGive 95 = .ok (.iload 7, 2) := by decide +kernel
theorem dX2_swapsThatGive_97 : decode cX2_swapsThatGive 97 = .ok (.ireturn, 1) := by decide +kernel
theorem dX2_gives_0 : decode cX2_gives 0 = .ok (.iconst 0, 1) := by decide +kernel
theorem dX2_gives_1 : decode cX2_gives 1 = .ok (.istore 6, 2) := by decide +kernel
theorem dX2_gives_3 : decode cX2_gives 3 = .ok (.iload 6, 2) := by decide +kernel
theorem dX2_gives_5 : decode cX2_gives 5 = .ok (.aload_n 0, 1) := by decide +kernel
theorem dX2_gives_6 : decode cX2_gives 6 = .ok (.getfield 110, 3) := by decide +kernel
theorem dX2_gives_9 : decode cX2_gives 9 = .ok (.if_icmp .ge 85, 3) := by decide +kernel
theorem dX2_gives_12 : decode cX2_gives 12 = .ok (.iload 6, 2) := by decide +kernel
theorem dX2_gives_14 : decode cX2_gives 14 = .ok (.iload_n 1, 1) := by decide +kernel
theorem dX2_gives_15 : decode cX2_gives 15 = .ok (.if_icmp .ne 7, 3) := by decide +kernel
theorem dX2_gives_18 : decode cX2_gives 18 = .ok (.iload_n 2, 1) := by decide +kernel
theorem dX2_gives_19 : decode cX2_gives 19 = .ok (.goto 15, 3) := by decide +kernel
theorem dX2_gives_22 : decode cX2_gives 22 = .ok (.iload 6, 2) := by decide +kernel
theorem dX2_gives_24 : decode cX2_gives 24 = .ok (.iload_n 2, 1) := by decide +kernel
theorem dX2_gives_25 : decode cX2_gives 25 = .ok (.if_icmp .ne 7, 3) := by decide +kernel
theorem dX2_gives_28 : decode cX2_gives 28 = .ok (.iload_n 1, 1) := by decide +kernel
theorem dX2_gives_29 : decode cX2_gives 29 = .ok (.goto 5, 3) := by decide +kernel
theorem dX2_gives_32 : decode cX2_gives 32 = .ok (.iload 6, 2) := by decide +kernel
theorem dX2_gives_34 : decode cX2_gives 34 = .ok (.istore 7, 2) := by decide +kernel
theorem dX2_gives_36 : decode cX2_gives 36 = .ok (.iconst 0, 1) := by decide +kernel
theorem dX2_gives_37 : decode cX2_gives 37 = .ok (.istore 8, 2) := by decide +kernel
theorem dX2_gives_39 : decode cX2_gives 39 = .ok (.iload 8, 2) := by decide +kernel
theorem dX2_gives_41 : decode cX2_gives 41 = .ok (.iconst 3, 1) := by decide +kernel
theorem dX2_gives_42 : decode cX2_gives 42 = .ok (.if_icmp .ge 46, 3) := by decide +kernel
theorem dX2_gives_45 : decode cX2_gives 45 = .ok (.aload_n 3, 1) := by decide +kernel
theorem dX2_gives_46 : decode cX2_gives 46 = .ok (.iload 4, 2) := by decide +kernel
theorem dX2_gives_48 : decode cX2_gives 48 = .ok (.iload 5, 2) := by decide +kernel
theorem dX2_gives_50 : decode cX2_gives 50 = .ok (.iload 6, 2) := by decide +kernel
theorem dX2_gives_52 : decode cX2_gives 52 = .ok (.iload 8, 2) := by decide +kernel
theorem dX2_gives_54 : decode cX2_gives 54 = .ok (.invokestatic 53, 3) := by decide +kernel
theorem dX2_gives_57 : decode cX2_gives 57 = .ok (.iadd, 1) := by decide +kernel
theorem dX2_gives_58 : decode cX2_gives 58 = .ok (.invokevirtual 32, 3) := by decide +kernel
theorem dX2_gives_61 : decode cX2_gives 61 = .ok (.istore 9, 2) := by decide +kernel
theorem dX2_gives_63 : decode cX2_gives 63 = .ok (.aload_n 0, 1) := by decide +kernel
theorem dX2_gives_64 : decode cX2_gives 64 = .ok (.getfield 117, 3) := by decide +kernel
theorem dX2_gives_67 : decode cX2_gives 67 = .ok (.iload 7, 2) := by decide +kernel
theorem dX2_gives_69 : decode cX2_gives 69 = .ok (.iload 8, 2) := by decide +kernel
theorem dX2_gives_71 : decode cX2_gives 71 = .ok (.invokestatic 53, 3) := by decide +kernel
theorem dX2_gives_74 : decode cX2_gives 74 = .ok (.iaload, 1) := by decide +kernel
theorem dX2_gives_75 : decode cX2_gives 75 = .ok (.iload 9, 2) := by decide +kernel
theorem dX2_gives_77 : decode cX2_gives 77 = .ok (.if_icmp .eq 5, 3) := by decide +kernel
theorem dX2_gives_80 : decode cX2_gives 80 = .ok (.iconst 0, 1) := by decide +kernel
theorem dX2_gives_81 : decode cX2_gives 81 = .ok (.ireturn, 1) := by decide +kernel
theorem dX2_gives_82 : decode cX2_gives 82 = .ok (.iinc 8 1, 3) := by decide +kernel
theorem dX2_gives_85 : decode cX2_gives 85 = .ok (.goto (-46), 3) := by decide +kernel
theorem dX2_gives_88 : decode cX2_gives 88 = .ok (.iinc 6 1, 3) := by decide +kernel
theorem dX2_gives_91 : decode cX2_gives 91 = .ok (.goto (-88), 3) := by decide +kernel
theorem dX2_gives_94 : decode cX2_gives 94 = .ok (.iconst 1, 1) := by decide +kernel
theorem dX2_gives_95 : decode cX2_gives 95 = .ok (.ireturn, 1) := by decide +kernel
theorem dX2_otherPlaces_0 : decode cX2_otherPlaces 0 = .ok (.iconst 0, 1) := by decide +kernel
theorem dX2_otherPlaces_1 : decode cX2_otherPlaces 1 = .ok (.istore_n 3, 1) := by decide +kernel
theorem dX2_otherPlaces_2 : decode cX2_otherPlaces 2 = .ok (.iconst 0, 1) := by decide +kernel
theorem dX2_otherPlaces_3 : decode cX2_otherPlaces 3 = .ok (.istore 4, 2) := by decide +kernel
theorem dX2_otherPlaces_5 : decode cX2_otherPlaces 5 = .ok (.iload 4, 2) := by decide +kernel
theorem dX2_otherPlaces_7 : decode cX2_otherPlaces 7 = .ok (.iconst 3, 1) := by decide +kernel
theorem dX2_otherPlaces_8 : decode cX2_otherPlaces 8 = .ok (.aload_n 1, 1) := by decide +kernel
theorem dX2_otherPlaces_9 : decode cX2_otherPlaces 9 = .ok (.getfield 110, 3) := by decide +kernel
theorem dX2_otherPlaces_12 : decode cX2_otherPlaces 12 = .ok (.imul, 1) := by decide +kernel
theorem dX2_otherPlaces_13 : decode cX2_otherPlaces 13 = .ok (.if_icmp .ge 37, 3) := by decide +kernel
theorem dX2_otherPlaces_16 : decode cX2_otherPlaces 16 = .ok (.iload_n 3, 1) := by decide +kernel
theorem dX2_otherPlaces_17 : decode cX2_otherPlaces 17 = .ok (.aload_n 1, 1) := by decide +kernel
theorem dX2_otherPlaces_18 : decode cX2_otherPlaces 18 = .ok (.getfield 117, 3) := by decide +kernel
theorem dX2_otherPlaces_21 : decode cX2_otherPlaces 21 = .ok (.iload 4, 2) := by decide +kernel
theorem dX2_otherPlaces_23 : decode cX2_otherPlaces 23 = .ok (.iaload, 1) := by decide +kernel
theorem dX2_otherPlaces_24 : decode cX2_otherPlaces 24 = .ok (.aload_n 2, 1) := by decide +kernel
theorem dX2_otherPlaces_25 : decode cX2_otherPlaces 25 = .ok (.getfield 117, 3) := by decide +kernel
theorem dX2_otherPlaces_28 : decode cX2_otherPlaces 28 = .ok (.iload 4, 2) := by decide +kernel
theorem dX2_otherPlaces_30 : decode cX2_otherPlaces 30 = .ok (.iaload, 1) := by decide +kernel
theorem dX2_otherPlaces_31 : decode cX2_otherPlaces 31 = .ok (.if_icmp .ne 7, 3) := by decide +kernel
theorem dX2_otherPlaces_34 : decode cX2_otherPlaces 34 = .ok (.iconst 0, 1) := by decide +kernel
theorem dX2_otherPlaces_35 : decode cX2_otherPlaces 35 = .ok (.goto 7, 3) := by decide +kernel
theorem dX2_otherPlaces_38 : decode cX2_otherPlaces 38 = .ok (.iconst 1, 1) := by decide +kernel
theorem dX2_otherPlaces_39 : decode cX2_otherPlaces 39 = .ok (.iload 4, 2) := by decide +kernel
theorem dX2_otherPlaces_41 : decode cX2_otherPlaces 41 = .ok (.ishl, 1) := by decide +kernel
theorem dX2_otherPlaces_42 : decode cX2_otherPlaces 42 = .ok (.ior, 1) := by decide +kernel
theorem dX2_otherPlaces_43 : decode cX2_otherPlaces 43 = .ok (.istore_n 3, 1) := by decide +kernel
theorem dX2_otherPlaces_44 : decode cX2_otherPlaces 44 = .ok (.iinc 4 1, 3) := by decide +kernel
theorem dX2_otherPlaces_47 : decode cX2_otherPlaces 47 = .ok (.goto (-42), 3) := by decide +kernel
theorem dX2_otherPlaces_50 : decode cX2_otherPlaces 50 = .ok (.iload_n 3, 1) := by decide +kernel
theorem dX2_otherPlaces_51 : decode cX2_otherPlaces 51 = .ok (.ireturn, 1) := by decide +kernel
theorem dX2_unlikeness_0 : decode cX2_unlikeness 0 = .ok (.iconst 0, 1) := by decide +kernel
theorem dX2_unlikeness_1 : decode cX2_unlikeness 1 = .ok (.istore_n 3, 1) := by decide +kernel
theorem dX2_unlikeness_2 : decode cX2_unlikeness 2 = .ok (.iconst 0, 1) := by decide +kernel
theorem dX2_unlikeness_3 : decode cX2_unlikeness 3 = .ok (.istore 4, 2) := by decide +kernel
theorem dX2_unlikeness_5 : decode cX2_unlikeness 5 = .ok (.iload 4, 2) := by decide +kernel
theorem dX2_unlikeness_7 : decode cX2_unlikeness 7 = .ok (.iconst 3, 1) := by decide +kernel
theorem dX2_unlikeness_8 : decode cX2_unlikeness 8 = .ok (.aload_n 1, 1) := by decide +kernel
theorem dX2_unlikeness_9 : decode cX2_unlikeness 9 = .ok (.getfield 110, 3) := by decide +kernel
theorem dX2_unlikeness_12 : decode cX2_unlikeness 12 = .ok (.imul, 1) := by decide +kernel
theorem dX2_unlikeness_13 : decode cX2_unlikeness 13 = .ok (.if_icmp .ge 30, 3) := by decide +kernel
theorem dX2_unlikeness_16 : decode cX2_unlikeness 16 = .ok (.iload_n 3, 1) := by decide +kernel
theorem dX2_unlikeness_17 : decode cX2_unlikeness 17 = .ok (.aload_n 1, 1) := by decide +kernel
theorem dX2_unlikeness_18 : decode cX2_unlikeness 18 = .ok (.getfield 117, 3) := by decide +kernel
theorem dX2_unlikeness_21 : decode cX2_unlikeness 21 = .ok (.iload 4, 2) := by decide +kernel
theorem dX2_unlikeness_23 : decode cX2_unlikeness 23 = .ok (.iaload, 1) := by decide +kernel
theorem dX2_unlikeness_24 : decode cX2_unlikeness 24 = .ok (.aload_n 2, 1) := by decide +kernel
theorem dX2_unlikeness_25 : decode cX2_unlikeness 25 = .ok (.getfield 117, 3) := by decide +kernel
theorem dX2_unlikeness_28 : decode cX2_unlikeness 28 = .ok (.iload 4, 2) := by decide +kernel
theorem dX2_unlikeness_30 : decode cX2_unlikeness 30 = .ok (.iaload, 1) := by decide +kernel
theorem dX2_unlikeness_31 : decode cX2_unlikeness 31 = .ok (.isub, 1) := by decide +kernel
theorem dX2_unlikeness_32 : decode cX2_unlikeness 32 = .ok (.invokestatic 104, 3) := by decide +kernel
theorem dX2_unlikeness_35 : decode cX2_unlikeness 35 = .ok (.iadd, 1) := by decide +kernel
theorem dX2_unlikeness_36 : decode cX2_unlikeness 36 = .ok (.istore_n 3, 1) := by decide +kernel
theorem dX2_unlikeness_37 : decode cX2_unlikeness 37 = .ok (.iinc 4 1, 3) := by decide +kernel
theorem dX2_unlikeness_40 : decode cX2_unlikeness 40 = .ok (.goto (-35), 3) := by decide +kernel
theorem dX2_unlikeness_43 : decode cX2_unlikeness 43 = .ok (.iload_n 3, 1) := by decide +kernel
theorem dX2_unlikeness_44 : decode cX2_unlikeness 44 = .ok (.ireturn, 1) := by decide +kernel
theorem dX2_waysToPart_0 : decode cX2_waysToPart 0 = .ok (.iconst 0, 1) := by decide +kernel
theorem dX2_waysToPart_1 : decode cX2_waysToPart 1 = .ok (.istore 5, 2) := by decide +kernel
theorem dX2_waysToPart_3 : decode cX2_waysToPart 3 = .ok (.ldc 59, 2) := by decide +kernel
theorem dX2_waysToPart_5 : decode cX2_waysToPart 5 = .ok (.istore 6, 2) := by decide +kernel
theorem dX2_waysToPart_7 : decode cX2_waysToPart 7 = .ok (.bipush (-20), 2) := by decide +kernel
theorem dX2_waysToPart_9 : decode cX2_waysToPart 9 = .ok (.istore 7, 2) := by decide +kernel
theorem dX2_waysToPart_11 : decode cX2_waysToPart 11 = .ok (.iload 7, 2) := by decide +kernel
theorem dX2_waysToPart_13 : decode cX2_waysToPart 13 = .ok (.bipush 20, 2) := by decide +kernel
theorem dX2_waysToPart_15 : decode cX2_waysToPart 15 = .ok (.if_icmp .gt 84, 3) := by decide +kernel
theorem dX2_waysToPart_18 : decode cX2_waysToPart 18 = .ok (.iload 5, 2) := by decide +kernel
theorem dX2_waysToPart_20 : decode cX2_waysToPart 20 = .ok (.istore 8, 2) := by decide +kernel
theorem dX2_waysToPart_22 : decode cX2_waysToPart 22 = .ok (.iload_n 3, 1) := by decide +kernel
theorem dX2_waysToPart_23 : decode cX2_waysToPart 23 = .ok (.aload_n 1, 1) := by decide +kernel
theorem dX2_waysToPart_24 : decode cX2_waysToPart 24 = .ok (.iload 7, 2) := by decide +kernel
theorem dX2_waysToPart_26 : decode cX2_waysToPart 26 = .ok (.invokevirtual 97, 3) := by decide +kernel
theorem dX2_waysToPart_29 : decode cX2_waysToPart 29 = .ok (.isub, 1) := by decide +kernel
theorem dX2_waysToPart_30 : decode cX2_waysToPart 30 = .ok (.istore 9, 2) := by decide +kernel
theorem dX2_waysToPart_32 : decode cX2_waysToPart 32 = .ok (.bipush (-20), 2) := by decide +kernel
theorem dX2_waysToPart_34 : decode cX2_waysToPart 34 = .ok (.istore 10, 2) := by decide +kernel
theorem dX2_waysToPart_36 : decode cX2_waysToPart 36 = .ok (.iload 10, 2) := by decide +kernel
theorem dX2_waysToPart_38 : decode cX2_waysToPart 38 = .ok (.bipush 20, 2) := by decide +kernel
theorem dX2_waysToPart_40 : decode cX2_waysToPart 40 = .ok (.if_icmp .gt 30, 3) := by decide +kernel
theorem dX2_waysToPart_43 : decode cX2_waysToPart 43 = .ok (.iload 5, 2) := by decide +kernel
theorem dX2_waysToPart_45 : decode cX2_waysToPart 45 = .ok (.aload_n 2, 1) := by decide +kernel
theorem dX2_waysToPart_46 : decode cX2_waysToPart 46 = .ok (.iload 10, 2) := by decide +kernel
theorem dX2_waysToPart_48 : decode cX2_waysToPart 48 = .ok (.invokevirtual 97, 3) := by decide +kernel
theorem dX2_waysToPart_51 : decode cX2_waysToPart 51 = .ok (.iload 9, 2) := by decide +kernel
theorem dX2_waysToPart_53 : decode cX2_waysToPart 53 = .ok (.if_icmp .ne 7, 3) := by decide +kernel
theorem dX2_waysToPart_56 : decode cX2_waysToPart 56 = .ok (.iconst 1, 1) := by decide +kernel
theorem dX2_waysToPart_57 : decode cX2_waysToPart 57 = .ok (.goto 4, 3) := by decide +kernel
theorem dX2_waysToPart_60 : decode cX2_waysToPart 60 = .ok (.iconst 0, 1) := by decide +kernel
theorem dX2_waysToPart_61 : decode cX2_waysToPart 61 = .ok (.iadd, 1) := by decide +kernel
theorem dX2_waysToPart_62 : decode cX2_waysToPart 62 = .ok (.istore 5, 2) := by decide +kernel
theorem dX2_waysToPart_64 : decode cX2_waysToPart 64 = .ok (.iinc 10 1, 3) := by decide +kernel
theorem dX2_waysToPart_67 : decode cX2_waysToPart 67 = .ok (.goto (-31), 3) := by decide +kernel
theorem dX2_waysToPart_70 : decode cX2_waysToPart 70 = .ok (.iload 6, 2) := by decide +kernel
theorem dX2_waysToPart_72 : decode cX2_waysToPart 72 = .ok (.ldc 59, 2) := by decide +kernel
theorem dX2_waysToPart_74 : decode cX2_waysToPart 74 = .ok (.if_icmp .ne 15, 3) := by decide +kernel
theorem dX2_waysToPart_77 : decode cX2_waysToPart 77 = .ok (.iload 5, 2) := by decide +kernel
theorem dX2_waysToPart_79 : decode cX2_waysToPart 79 = .ok (.iload 8, 2) := by decide +kernel
theorem dX2_waysToPart_81 : decode cX2_waysToPart 81 = .ok (.if_icmp .le 8, 3) := by decide +kernel
theorem dX2_waysToPart_84 : decode cX2_waysToPart 84 = .ok (.iload 7, 2) := by decide +kernel
theorem dX2_waysToPart_86 : decode cX2_waysToPart 86 = .ok (.goto 5, 3) := by decide +kernel
theorem dX2_waysToPart_89 : decode cX2_waysToPart 89 = .ok (.iload 6, 2) := by decide +kernel
theorem dX2_waysToPart_91 : decode cX2_waysToPart 91 = .ok (.istore 6, 2) := by decide +kernel
theorem dX2_waysToPart_93 : decode cX2_waysToPart 93 = .ok (.iinc 7 1, 3) := by decide +kernel
theorem dX2_waysToPart_96 : decode cX2_waysToPart 96 = .ok (.goto (-85), 3) := by decide +kernel
theorem dX2_waysToPart_99 : decode cX2_waysToPart 99 = .ok (.iload 4, 2) := by decide +kernel
theorem dX2_waysToPart_101 : decode cX2_waysToPart 101 = .ok (.ifCond .ne 8, 3) := by decide +kernel
theorem dX2_waysToPart_104 : decode cX2_waysToPart 104 = .ok (.iload 5, 2) := by decide +kernel
theorem dX2_waysToPart_106 : decode cX2_waysToPart 106 = .ok (.goto 5, 3) := by decide +kernel
theorem dX2_waysToPart_109 : decode cX2_waysToPart 109 = .ok (.iload 6, 2) := by decide +kernel
theorem dX2_waysToPart_111 : decode cX2_waysToPart 111 = .ok (.ireturn, 1) := by decide +kernel
theorem dX2_fewestRepairs_0 : decode cX2_fewestRepairs 0 = .ok (.ldc 59, 2) := by decide +kernel
theorem dX2_fewestRepairs_2 : decode cX2_fewestRepairs 2 = .ok (.istore 4, 2) := by decide +kernel
theorem dX2_fewestRepairs_4 : decode cX2_fewestRepairs 4 = .ok (.iconst 0, 1) := by decide +kernel
theorem dX2_fewestRepairs_5 : decode cX2_fewestRepairs 5 = .ok (.istore 5, 2) := by decide +kernel
theorem dX2_fewestRepairs_7 : decode cX2_fewestRepairs 7 = .ok (.iload 5, 2) := by decide +kernel
theorem dX2_fewestRepairs_9 : decode cX2_fewestRepairs 9 = .ok (.bipush 8, 2) := by decide +kernel
theorem dX2_fewestRepairs_11 : decode cX2_fewestRepairs 11 = .ok (.if_icmp .ge 64, 3) := by decide +kernel
theorem dX2_fewestRepairs_14 : decode cX2_fewestRepairs 14 = .ok (.iload_n 3, 1) := by decide +kernel
theorem dX2_fewestRepairs_15 : decode cX2_fewestRepairs 15 = .ok (.aload_n 1, 1) := by decide +kernel
theorem dX2_fewestRepairs_16 : decode cX2_fewestRepairs 16 = .ok (.iload_n 2, 1) := by decide +kernel
theorem dX2_fewestRepairs_17 : decode cX2_fewestRepairs 17 = .ok (.iload 5, 2) := by decide +kernel
theorem dX2_fewestRepairs_19 : decode cX2_fewestRepairs 19 = .ok (.invokestatic 120, 3) := by decide +kernel
theorem dX2_fewestRepairs_22 : decode cX2_fewestRepairs 22 = .ok (.isub, 1) := by decide +kernel
theorem dX2_fewestRepairs_23 : decode cX2_fewestRepairs 23 = .ok (.istore 6, 2) := by decide +kernel
theorem dX2_fewestRepairs_25 : decode cX2_fewestRepairs 25 = .ok (.iload 6, 2) := by decide +kernel
theorem dX2_fewestRepairs_27 : decode cX2_fewestRepairs 27 = .ok (.ifCond .lt 20, 3) := by decide +kernel
theorem dX2_fewestRepairs_30 : decode cX2_fewestRepairs 30 = .ok (.iload 6, 2) := by decide +kernel
theorem dX2_fewestRepairs_32 : decode cX2_fewestRepairs 32 = .ok (.bipush 99, 2) := by decide +kernel
theorem dX2_fewestRepairs_34 : decode cX2_fewestRepairs 34 = .ok (.iload 5, 2) := by decide +kernel
theorem dX2_fewestRepairs_36 : decode cX2_fewestRepairs 36 = .ok (.invokestatic 63, 3) := by decide +kernel
theorem dX2_fewestRepairs_39 : decode cX2_fewestRepairs 39 = .ok (.imul, 1) := by decide +kernel
theorem dX2_fewestRepairs_40 : decode cX2_fewestRepairs 40 = .ok (.if_icmp .gt 7, 3) := by decide +kernel
theorem dX2_fewestRepairs_43 : decode cX2_fewestRepairs 43 = .ok (.iconst 1, 1) := by decide +kernel
theorem dX2_fewestRepairs_44 : decode cX2_fewestRepairs 44 = .ok (.goto 4, 3) := by decide +kernel
theorem dX2_fewestRepairs_47 : decode cX2_fewestRepairs 47 = .ok (.iconst 0, 1) := by decide +kernel
theorem dX2_fewestRepairs_48 : decode cX2_fewestRepairs 48 = .ok (.istore 7, 2) := by decide +kernel
theorem dX2_fewestRepairs_50 : decode cX2_fewestRepairs 50 = .ok (.iload 7, 2) := by decide +kernel
theorem dX2_fewestRepairs_52 : decode cX2_fewestRepairs 52 = .ok (.ifCond .eq 17, 3) := by decide +kernel
theorem dX2_fewestRepairs_55 : decode cX2_fewestRepairs 55 = .ok (.iload 5, 2) := by decide +kernel
theorem dX2_fewestRepairs_57 : decode cX2_fewestRepairs 57 = .ok (.iload 4, 2) := by decide +kernel
theorem dX2_fewestRepairs_59 : decode cX2_fewestRepairs 59 = .ok (.invokestatic 60, 3) := by decide +kernel
theorem dX2_fewestRepairs_62 : decode cX2_fewestRepairs 62 = .ok (.ifCond .eq 7, 3) := by decide +kernel
theorem dX2_fewestRepairs_65 : decode cX2_fewestRepairs 65 = .ok (.iload 5, 2) := by decide +kernel
theorem dX2_fewestRepairs_67 : decode cX2_fewestRepairs 67 = .ok (.istore 4, 2) := by decide +kernel
theorem dX2_fewestRepairs_69 : decode cX2_fewestRepairs 69 = .ok (.iinc 5 1, 3) := by decide +kernel
theorem dX2_fewestRepairs_72 : decode cX2_fewestRepairs 72 = .ok (.goto (-65), 3) := by decide +kernel
theorem dX2_fewestRepairs_75 : decode cX2_fewestRepairs 75 = .ok (.iload 4, 2) := by decide +kernel
theorem dX2_fewestRepairs_77 : decode cX2_fewestRepairs 77 = .ok (.ireturn, 1) := by decide +kernel
theorem dX2_sumWithout_0 : decode cX2_sumWithout 0 = .ok (.iconst 0, 1) := by decide +kernel
theorem dX2_sumWithout_1 : decode cX2_sumWithout 1 = .ok (.istore_n 3, 1) := by decide +kernel
theorem dX2_sumWithout_2 : decode cX2_sumWithout 2 = .ok (.iconst 0, 1) := by decide +kernel
theorem dX2_sumWithout_3 : decode cX2_sumWithout 3 = .ok (.istore 4, 2) := by decide +kernel
theorem dX2_sumWithout_5 : decode cX2_sumWithout 5 = .ok (.iload 4, 2) := by decide +kernel
theorem dX2_sumWithout_7 : decode cX2_sumWithout 7 = .ok (.iconst 3, 1) := by decide +kernel
theorem dX2_sumWithout_8 : decode cX2_sumWithout 8 = .ok (.if_icmp .ge 36, 3) := by decide +kernel
theorem dX2_sumWithout_11 : decode cX2_sumWithout 11 = .ok (.iload_n 3, 1) := by decide +kernel
theorem dX2_sumWithout_12 : decode cX2_sumWithout 12 = .ok (.iload_n 2, 1) := by decide +kernel
theorem dX2_sumWithout_13 : decode cX2_sumWithout 13 = .ok (.iload 4, 2) := by decide +kernel
theorem dX2_sumWithout_15 : decode cX2_sumWithout 15 = .ok (.invokestatic 56, 3) := by decide +kernel
theorem dX2_sumWithout_18 : decode cX2_sumWithout 18 = .ok (.ifCond .eq 7, 3) := by decide +kernel
theorem dX2_sumWithout_21 : decode cX2_sumWithout 21 = .ok (.iconst 0, 1) := by decide +kernel
theorem dX2_sumWithout_22 : decode cX2_sumWithout 22 = .ok (.goto 14, 3) := by decide +kernel
theorem dX2_sumWithout_25 : decode cX2_sumWithout 25 = .ok (.aload_n 0, 1) := by decide +kernel
theorem dX2_sumWithout_26 : decode cX2_sumWithout 26 = .ok (.getfield 117, 3) := by decide +kernel
theorem dX2_sumWithout_29 : decode cX2_sumWithout 29 = .ok (.iload_n 1, 1) := by decide +kernel
theorem dX2_sumWithout_30 : decode cX2_sumWithout 30 = .ok (.iload 4, 2) := by decide +kernel
theorem dX2_sumWithout_32 : decode cX2_sumWithout 32 = .ok (.invokestatic 53, 3) := by decide +kernel
theorem dX2_sumWithout_35 : decode cX2_sumWithout 35 = .ok (.iaload, 1) := by decide +kernel
theorem dX2_sumWithout_36 : decode cX2_sumWithout 36 = .ok (.iadd, 1) := by decide +kernel
theorem dX2_sumWithout_37 : decode cX2_sumWithout 37 = .ok (.istore_n 3, 1) := by decide +kernel
theorem dX2_sumWithout_38 : decode cX2_sumWithout 38 = .ok (.iinc 4 1, 3) := by decide +kernel
theorem dX2_sumWithout_41 : decode cX2_sumWithout 41 = .ok (.goto (-36), 3) := by decide +kernel
theorem dX2_sumWithout_44 : decode cX2_sumWithout 44 = .ok (.iload_n 3, 1) := by decide +kernel
theorem dX2_sumWithout_45 : decode cX2_sumWithout 45 = .ok (.ireturn, 1) := by decide +kernel
theorem dX2_feltNeeded_0 : decode cX2_feltNeeded 0 = .ok (.aload_n 1, 1) := by decide +kernel
theorem dX2_feltNeeded_1 : decode cX2_feltNeeded 1 = .ok (.iload_n 2, 1) := by decide +kernel
theorem dX2_feltNeeded_2 : decode cX2_feltNeeded 2 = .ok (.iconst 1, 1) := by decide +kernel
theorem dX2_feltNeeded_3 : decode cX2_feltNeeded 3 = .ok (.aload_n 1, 1) := by decide +kernel
theorem dX2_feltNeeded_4 : decode cX2_feltNeeded 4 = .ok (.getfield 110, 3) := by decide +kernel
theorem dX2_feltNeeded_7 : decode cX2_feltNeeded 7 = .ok (.ishl, 1) := by decide +kernel
theorem dX2_feltNeeded_8 : decode cX2_feltNeeded 8 = .ok (.iconst 1, 1) := by decide +kernel
theorem dX2_feltNeeded_9 : decode cX2_feltNeeded 9 = .ok (.isub, 1) := by decide +kernel
theorem dX2_feltNeeded_10 : decode cX2_feltNeeded 10 = .ok (.invokestatic 124, 3) := by decide +kernel
theorem dX2_feltNeeded_13 : decode cX2_feltNeeded 13 = .ok (.ireturn, 1) := by decide +kernel
theorem dX2_stripsOf_0 : decode cX2_stripsOf 0 = .ok (.iconst 0, 1) := by decide +kernel
theorem dX2_stripsOf_1 : decode cX2_stripsOf 1 = .ok (.istore_n 3, 1) := by decide +kernel
theorem dX2_stripsOf_2 : decode cX2_stripsOf 2 = .ok (.iconst 0, 1) := by decide +kernel
theorem dX2_stripsOf_3 : decode cX2_stripsOf 3 = .ok (.istore 4, 2) := by decide +kernel
theorem dX2_stripsOf_5 : decode cX2_stripsOf 5 = .ok (.iload 4, 2) := by decide +kernel
theorem dX2_stripsOf_7 : decode cX2_stripsOf 7 = .ok (.aload_n 0, 1) := by decide +kernel
theorem dX2_stripsOf_8 : decode cX2_stripsOf 8 = .ok (.getfield 110, 3) := by decide +kernel
theorem dX2_stripsOf_11 : decode cX2_stripsOf 11 = .ok (.if_icmp .ge 44, 3) := by decide +kernel
theorem dX2_stripsOf_14 : decode cX2_stripsOf 14 = .ok (.aload_n 0, 1) := by decide +kernel
theorem dX2_stripsOf_15 : decode cX2_stripsOf 15 = .ok (.getfield 117, 3) := by decide +kernel
theorem dX2_stripsOf_18 : decode cX2_stripsOf 18 = .ok (.iload 4, 2) := by decide +kernel
theorem dX2_stripsOf_20 : decode cX2_stripsOf 20 = .ok (.iload_n 1, 1) := by decide +kernel
theorem dX2_stripsOf_21 : decode cX2_stripsOf 21 = .ok (.invokestatic 53, 3) := by decide +kernel
theorem dX2_stripsOf_24 : decode cX2_stripsOf 24 = .ok (.iaload, 1) := by decide +kernel
theorem dX2_stripsOf_25 : decode cX2_stripsOf 25 = .ok (.iconst 0, 1) := by decide +kernel
theorem dX2_stripsOf_26 : decode cX2_stripsOf 26 = .ok (.invokestatic 69, 3) := by decide +kernel
theorem dX2_stripsOf_29 : decode cX2_stripsOf 29 = .ok (.istore 5, 2) := by decide +kernel
theorem dX2_stripsOf_31 : decode cX2_stripsOf 31 = .ok (.iload_n 3, 1) := by decide +kernel
theorem dX2_stripsOf_32 : decode cX2_stripsOf 32 = .ok (.iload_n 2, 1) := by decide +kernel
theorem dX2_stripsOf_33 : decode cX2_stripsOf 33 = .ok (.iload 4, 2) := by decide +kernel
theorem dX2_stripsOf_35 : decode cX2_stripsOf 35 = .ok (.invokestatic 56, 3) := by decide +kernel
theorem dX2_stripsOf_38 : decode cX2_stripsOf 38 = .ok (.ifCond .eq 8, 3) := by decide +kernel
theorem dX2_stripsOf_41 : decode cX2_stripsOf 41 = .ok (.iload 5, 2) := by decide +kernel
theorem dX2_stripsOf_43 : decode cX2_stripsOf 43 = .ok (.goto 4, 3) := by decide +kernel
theorem dX2_stripsOf_46 : decode cX2_stripsOf 46 = .ok (.iconst 0, 1) := by decide +kernel
theorem dX2_stripsOf_47 : decode cX2_stripsOf 47 = .ok (.iadd, 1) := by decide +kernel
theorem dX2_stripsOf_48 : decode cX2_stripsOf 48 = .ok (.istore_n 3, 1) := by decide +kernel
theorem dX2_stripsOf_49 : decode cX2_stripsOf 49 = .ok (.iinc 4 1, 3) := by decide +kernel
theorem dX2_stripsOf_52 : decode cX2_stripsOf 52 = .ok (.goto (-47), 3) := by decide +kernel
theorem dX2_stripsOf_55 : decode cX2_stripsOf 55 = .ok (.iload_n 3, 1) := by decide +kernel
theorem dX2_stripsOf_56 : decode cX2_stripsOf 56 = .ok (.ireturn, 1) := by decide +kernel
theorem dX2_fewestBolts_0 : decode cX2_fewestBolts 0 = .ok (.iconst 1, 1) := by decide +kernel
theorem dX2_fewestBolts_1 : decode cX2_fewestBolts 1 = .ok (.aload_n 1, 1) := by decide +kernel
theorem dX2_fewestBolts_2 : decode cX2_fewestBolts 2 = .ok (.getfield 110, 3) := by decide +kernel
theorem dX2_fewestBolts_5 : decode cX2_fewestBolts 5 = .ok (.ishl, 1) := by decide +kernel
theorem dX2_fewestBolts_6 : decode cX2_fewestBolts 6 = .ok (.iconst 1, 1) := by decide +kernel
theorem dX2_fewestBolts_7 : decode cX2_fewestBolts 7 = .ok (.isub, 1) := by decide +kernel
theorem dX2_fewestBolts_8 : decode cX2_fewestBolts 8 = .ok (.istore 4, 2) := by decide +kernel
theorem dX2_fewestBolts_10 : decode cX2_fewestBolts 10 = .ok (.aload_n 0, 1) := by decide +kernel
theorem dX2_fewestBolts_11 : decode cX2_fewestBolts 11 = .ok (.getfield 15, 3) := by decide +kernel
theorem dX2_fewestBolts_14 : decode cX2_fewestBolts 14 = .ok (.iconst 0, 1) := by decide +kernel
theorem dX2_fewestBolts_15 : decode cX2_fewestBolts 15 = .ok (.iconst 0, 1) := by decide +kernel
theorem dX2_fewestBolts_16 : decode cX2_fewestBolts 16 = .ok (.iastore, 1) := by decide +kernel
theorem dX2_fewestBolts_17 : decode cX2_fewestBolts 17 = .ok (.iconst 1, 1) := by decide +kernel
theorem dX2_fewestBolts_18 : decode cX2_fewestBolts 18 = .ok (.istore 5, 2) := by decide +kernel
theorem dX2_fewestBolts_20 : decode cX2_fewestBolts 20 = .ok (.iload 5, 2) := by decide +kernel
theorem dX2_fewestBolts_22 : decode cX2_fewestBolts 22 = .ok (.iload 4, 2) := by decide +kernel
theorem dX2_fewestBolts_24 : decode cX2_fewestBolts 24 = .ok (.if_icmp .gt 111, 3) := by decide +kernel
theorem dX2_fewestBolts_27 : decode cX2_fewestBolts 27 = .ok (.aload_n 0, 1) := by decide +kernel
theorem dX2_fewestBolts_28 : decode cX2_fewestBolts 28 = .ok (.getfield 15, 3) := by decide +kernel
theorem dX2_fewestBolts_31 : decode cX2_fewestBolts 31 = .ok (.iload 5, 2) := by decide +kernel
theorem dX2_fewestBolts_33 : decode cX2_fewestBolts 33 = .ok (.aload_n 1, 1) := by decide +kernel
theorem dX2_fewestBolts_34 : decode cX2_fewestBolts 34 = .ok (.iload_n 2, 1) := by decide +kernel
theorem dX2_fewestBolts_35 : decode cX2_fewestBolts 35 = .ok (.iload 5, 2) := by decide +kernel
theorem dX2_fewestBolts_37 : decode cX2_fewestBolts 37 = .ok (.invokestatic 124, 3) := by decide +kernel
theorem dX2_fewestBolts_40 : decode cX2_fewestBolts 40 = .ok (.ifCond .ne 7, 3) := by decide +kernel
theorem dX2_fewestBolts_43 : decode cX2_fewestBolts 43 = .ok (.iconst 0, 1) := by decide +kernel
theorem dX2_fewestBolts_44 : decode cX2_fewestBolts 44 = .ok (.goto 5, 3) := by decide +kernel
theorem dX2_fewestBolts_47 : decode cX2_fewestBolts 47 = .ok (.ldc 59, 2) := by decide +kernel
theorem dX2_fewestBolts_49 : decode cX2_fewestBolts 49 = .ok (.iastore, 1) := by decide +kernel
theorem dX2_fewestBolts_50 : decode cX2_fewestBolts 50 = .ok (.iconst 1, 1) := by decide +kernel
theorem dX2_fewestBolts_51 : decode cX2_fewestBolts 51 = .ok (.istore 6, 2) := by decide +kernel
theorem dX2_fewestBolts_53 : decode cX2_fewestBolts 53 = .ok (.iload 6, 2) := by decide +kernel
theorem dX2_fewestBolts_55 : decode cX2_fewestBolts 55 = .ok (.iload 5, 2) := by decide +kernel
theorem dX2_fewestBolts_57 : decode cX2_fewestBolts 57 = .ok (.if_icmp .gt 72, 3) := by decide +kernel
theorem dX2_fewestBolts_60 : decode cX2_fewestBolts 60 = .ok (.aload_n 0, 1) := by decide +kernel
theorem dX2_fewestBolts_61 : decode cX2_fewestBolts 61 = .ok (.getfield 15, 3) := by decide +kernel
theorem dX2_fewestBolts_64 : decode cX2_fewestBolts 64 = .ok (.iload 5, 2) := by decide +kernel
theorem dX2_fewestBolts_66 : decode cX2_fewestBolts 66 = .ok (.iload 6, 2) := by decide +kernel
theorem dX2_fewestBolts_68 : decode cX2_fewestBolts 68 = .ok (.iconst (-1), 1) := by decide +kernel
theorem dX2_fewestBolts_69 : decode cX2_fewestBolts 69 = .ok (.ixor, 1) := by decide +kernel
theorem dX2_fewestBolts_70 : decode cX2_fewestBolts 70 = .ok (.iand, 1) := by decide +kernel
theorem dX2_fewestBolts_71 : decode cX2_fewestBolts 71 = .ok (.iaload, 1) := by decide +kernel
theorem dX2_fewestBolts_72 : decode cX2_fewestBolts 72 = .ok (.istore 7, 2) := by decide +kernel
theorem dX2_fewestBolts_74 : decode cX2_fewestBolts 74 = .ok (.iload 6, 2) := by decide +kernel
theorem dX2_fewestBolts_76 : decode cX2_fewestBolts 76 = .ok (.iload 5, 2) := by decide +kernel
theorem dX2_fewestBolts_78 : decode cX2_fewestBolts 78 = .ok (.iconst (-1), 1) := by decide +kernel
theorem dX2_fewestBolts_79 : decode cX2_fewestBolts 79 = .ok (.ixor, 1) := by decide +kernel
theorem dX2_fewestBolts_80 : decode cX2_fewestBolts 80 = .ok (.iand, 1) := by decide +kernel
theorem dX2_fewestBolts_81 : decode cX2_fewestBolts 81 = .ok (.ifCond .ne 42, 3) := by decide +kernel
theorem dX2_fewestBolts_84 : decode cX2_fewestBolts 84 = .ok (.iload 7, 2) := by decide +kernel
theorem dX2_fewestBolts_86 : decode cX2_fewestBolts 86 = .ok (.ldc 59, 2) := by decide +kernel
theorem dX2_fewestBolts_88 : decode cX2_fewestBolts 88 = .ok (.if_icmp .eq 35, 3) := by decide +kernel
theorem dX2_fewestBolts_91 : decode cX2_fewestBolts 91 = .ok (.aload_n 1, 1) := by decide +kernel
theorem dX2_fewestBolts_92 : decode cX2_fewestBolts 92 = .ok (.iload_n 2, 1) := by decide +kernel
theorem dX2_fewestBolts_93 : decode cX2_fewestBolts 93 = .ok (.iload 6, 2) := by decide +kernel
theorem dX2_fewestBolts_95 : decode cX2_fewestBolts 95 = .ok (.invokestatic 124, 3) := by decide +kernel
theorem dX2_fewestBolts_98 : decode cX2_fewestBolts 98 = .ok (.iload_n 3, 1) := by decide +kernel
theorem dX2_fewestBolts_99 : decode cX2_fewestBolts 99 = .ok (.if_icmp .gt 24, 3) := by decide +kernel
theorem dX2_fewestBolts_102 : decode cX2_fewestBolts 102 = .ok (.aload_n 0, 1) := by decide +kernel
theorem dX2_fewestBolts_103 : decode cX2_fewestBolts 103 = .ok (.getfield 15, 3) := by decide +kernel
theorem dX2_fewestBolts_106 : decode cX2_fewestBolts 106 = .ok (.iload 5, 2) := by decide +kernel
theorem dX2_fewestBolts_108 : decode cX2_fewestBolts 108 = .ok (.aload_n 0, 1) := by decide +kernel
theorem dX2_fewestBolts_109 : decode cX2_fewestBolts 109 = .ok (.getfield 15, 3) := by decide +kernel
theorem dX2_fewestBolts_112 : decode cX2_fewestBolts 112 = .ok (.iload 5, 2) := by decide +kernel
theorem dX2_fewestBolts_114 : decode cX2_fewestBolts 114 = .ok (.iaload, 1) := by decide +kernel
theorem dX2_fewestBolts_115 : decode cX2_fewestBolts 115 = .ok (.iload 7, 2) := by decide +kernel
theorem dX2_fewestBolts_117 : decode cX2_fewestBolts 117 = .ok (.iconst 1, 1) := by decide +kernel
theorem dX2_fewestBolts_118 : decode cX2_fewestBolts 118 = .ok (.iadd, 1) := by decide +kernel
theorem dX2_fewestBolts_119 : decode cX2_fewestBolts 119 = .ok (.invokestatic 127, 3) := by decide +kernel
theorem dX2_fewestBolts_122 : decode cX2_fewestBolts 122 = .ok (.iastore, 1) := by decide +kernel
theorem dX2_fewestBolts_123 : decode cX2_fewestBolts 123 = .ok (.iinc 6 1, 3) := by decide +kernel
theorem dX2_fewestBolts_126 : decode cX2_fewestBolts 126 = .ok (.goto (-73), 3) := by decide +kernel
theorem dX2_fewestBolts_129 : decode cX2_fewestBolts 129 = .ok (.iinc 5 1, 3) := by decide +kernel
theorem dX2_fewestBolts_132 : decode cX2_fewestBolts 132 = .ok (.goto (-112), 3) := by decide +kernel
theorem dX2_fewestBolts_135 : decode cX2_fewestBolts 135 = .ok (.aload_n 0, 1) := by decide +kernel
theorem dX2_fewestBolts_136 : decode cX2_fewestBolts 136 = .ok (.getfield 15, 3) := by decide +kernel
theorem dX2_fewestBolts_139 : decode cX2_fewestBolts 139 = .ok (.iload 4, 2) := by decide +kernel
theorem dX2_fewestBolts_141 : decode cX2_fewestBolts 141 = .ok (.iaload, 1) := by decide +kernel
theorem dX2_fewestBolts_142 : decode cX2_fewestBolts 142 = .ok (.ireturn, 1) := by decide +kernel
theorem dX2_fewer_0 : decode cX2_fewer 0 = .ok (.iload_n 0, 1) := by decide +kernel
theorem dX2_fewer_1 : decode cX2_fewer 1 = .ok (.ldc 59, 2) := by decide +kernel
theorem dX2_fewer_3 : decode cX2_fewer 3 = .ok (.if_icmp .ne 7, 3) := by decide +kernel
theorem dX2_fewer_6 : decode cX2_fewer 6 = .ok (.iload_n 1, 1) := by decide +kernel
theorem dX2_fewer_7 : decode cX2_fewer 7 = .ok (.goto 8, 3) := by decide +kernel
theorem dX2_fewer_10 : decode cX2_fewer 10 = .ok (.iload_n 0, 1) := by decide +kernel
theorem dX2_fewer_11 : decode cX2_fewer 11 = .ok (.iload_n 1, 1) := by decide +kernel
theorem dX2_fewer_12 : decode cX2_fewer 12 = .ok (.invokestatic 130, 3) := by decide +kernel
theorem dX2_fewer_15 : decode cX2_fewer 15 = .ok (.ireturn, 1) := by decide +kernel
theorem dX2_partnerOfFirst_0 : decode cX2_partnerOfFirst 0 = .ok (.aload_n 1, 1) := by decide +kernel
theorem dX2_partnerOfFirst_1 : decode cX2_partnerOfFirst 1 = .ok (.getfield 110, 3) := by decide +kernel
theorem dX2_partnerOfFirst_4 : decode cX2_partnerOfFirst 4 = .ok (.iconst 2, 1) := by decide +kernel
theorem dX2_partnerOfFirst_5 : decode cX2_partnerOfFirst 5 = .ok (.irem, 1) := by decide +kernel
theorem dX2_partnerOfFirst_6 : decode cX2_partnerOfFirst 6 = .ok (.iconst 1, 1) := by decide +kernel
theorem dX2_partnerOfFirst_7 : decode cX2_partnerOfFirst 7 = .ok (.if_icmp .ne 10, 3) := by decide +kernel
theorem dX2_partnerOfFirst_10 : decode cX2_partnerOfFirst 10 = .ok (.aload_n 1, 1) := by decide +kernel
theorem dX2_partnerOfFirst_11 : decode cX2_partnerOfFirst 11 = .ok (.getfield 110, 3) := by decide +kernel
theorem dX2_partnerOfFirst_14 : decode cX2_partnerOfFirst 14 = .ok (.goto 9, 3) := by decide +kernel
theorem dX2_partnerOfFirst_17 : decode cX2_partnerOfFirst 17 = .ok (.aload_n 1, 1) := by decide +kernel
theorem dX2_partnerOfFirst_18 : decode cX2_partnerOfFirst 18 = .ok (.getfield 110, 3) := by decide +kernel
theorem dX2_partnerOfFirst_21 : decode cX2_partnerOfFirst 21 = .ok (.iconst 1, 1) := by decide +kernel
theorem dX2_partnerOfFirst_22 : decode cX2_partnerOfFirst 22 = .ok (.isub, 1) := by decide +kernel
theorem dX2_partnerOfFirst_23 : decode cX2_partnerOfFirst 23 = .ok (.istore_n 2, 1) := by decide +kernel
theorem dX2_partnerOfFirst_24 : decode cX2_partnerOfFirst 24 = .ok (.iconst 1, 1) := by decide +kernel
theorem dX2_partnerOfFirst_25 : decode cX2_partnerOfFirst 25 = .ok (.istore_n 3, 1) := by decide +kernel
theorem dX2_partnerOfFirst_26 : decode cX2_partnerOfFirst 26 = .ok (.iconst 2, 1) := by decide +kernel
theorem dX2_partnerOfFirst_27 : decode cX2_partnerOfFirst 27 = .ok (.istore 4, 2) := by decide +kernel
theorem dX2_partnerOfFirst_29 : decode cX2_partnerOfFirst 29 = .ok (.iload 4, 2) := by decide +kernel
theorem dX2_partnerOfFirst_31 : decode cX2_partnerOfFirst 31 = .ok (.iload_n 2, 1) := by decide +kernel
theorem dX2_partnerOfFirst_32 : decode cX2_partnerOfFirst 32 = .ok (.if_icmp .gt 28, 3) := by decide +kernel
theorem dX2_partnerOfFirst_35 : decode cX2_partnerOfFirst 35 = .ok (.aload_n 0, 1) := by decide +kernel
theorem dX2_partnerOfFirst_36 : decode cX2_partnerOfFirst 36 = .ok (.aload_n 1, 1) := by decide +kernel
theorem dX2_partnerOfFirst_37 : decode cX2_partnerOfFirst 37 = .ok (.iload 4, 2) := by decide +kernel
theorem dX2_partnerOfFirst_39 : decode cX2_partnerOfFirst 39 = .ok (.invokevirtual 133, 3) := by decide +kernel
theorem dX2_partnerOfFirst_42 : decode cX2_partnerOfFirst 42 = .ok (.aload_n 0, 1) := by decide +kernel
theorem dX2_partnerOfFirst_43 : decode cX2_partnerOfFirst 43 = .ok (.aload_n 1, 1) := by decide +kernel
theorem dX2_partnerOfFirst_44 : decode cX2_partnerOfFirst 44 = .ok (.iload_n 3, 1) := by decide +kernel
theorem dX2_partnerOfFirst_45 : decode cX2_partnerOfFirst 45 = .ok (.invokevirtual 133, 3) := by decide +kernel
theorem dX2_partnerOfFirst_48 : decode cX2_partnerOfFirst 48 = .ok (.if_icmp .ge 6, 3) := by decide +kernel
theorem dX2_partnerOfFirst_51 : decode cX2_partnerOfFirst 51 = .ok (.iload 4, 2) := by decide +kernel
theorem dX2_partnerOfFirst_53 : decode cX2_partnerOfFirst 53 = .ok (.istore_n 3, 1) := by decide +kernel
theorem dX2_partnerOfFirst_54 : decode cX2_partnerOfFirst 54 = .ok (.iinc 4 1, 3) := by decide +kernel
theorem dX2_partnerOfFirst_57 : decode cX2_partnerOfFirst 57 = .ok (.goto (-28), 3) := by decide +kernel
theorem dX2_partnerOfFirst_60 : decode cX2_partnerOfFirst 60 = .ok (.iload_n 3, 1) := by decide +kernel
theorem dX2_partnerOfFirst_61 : decode cX2_partnerOfFirst 61 = .ok (.ireturn, 1) := by decide +kernel
theorem dX2_unlikePairs_0 : decode cX2_unlikePairs 0 = .ok (.aload_n 1, 1) := by decide +kernel
theorem dX2_unlikePairs_1 : decode cX2_unlikePairs 1 = .ok (.iload_n 2, 1) := by decide +kernel
theorem dX2_unlikePairs_2 : decode cX2_unlikePairs 2 = .ok (.iconst 0, 1) := by decide +kernel
theorem dX2_unlikePairs_3 : decode cX2_unlikePairs 3 = .ok (.invokestatic 137, 3) := by decide +kernel
theorem dX2_unlikePairs_6 : decode cX2_unlikePairs 6 = .ok (.istore_n 3, 1) := by decide +kernel
theorem dX2_unlikePairs_7 : decode cX2_unlikePairs 7 = .ok (.iload_n 3, 1) := by decide +kernel
theorem dX2_unlikePairs_8 : decode cX2_unlikePairs 8 = .ok (.ldc 59, 2) := by decide +kernel
theorem dX2_unlikePairs_10 : decode cX2_unlikePairs 10 = .ok (.if_icmp .ne 8, 3) := by decide +kernel
theorem dX2_unlikePairs_13 : decode cX2_unlikePairs 13 = .ok (.ldc 59, 2) := by decide +kernel
theorem dX2_unlikePairs_15 : decode cX2_unlikePairs 15 = .ok (.goto 9, 3) := by decide +kernel
theorem dX2_unlikePairs_18 : decode cX2_unlikePairs 18 = .ok (.aload_n 1, 1) := by decide +kernel
theorem dX2_unlikePairs_19 : decode cX2_unlikePairs 19 = .ok (.iload_n 2, 1) := by decide +kernel
theorem dX2_unlikePairs_20 : decode cX2_unlikePairs 20 = .ok (.iload_n 3, 1) := by decide +kernel
theorem dX2_unlikePairs_21 : decode cX2_unlikePairs 21 = .ok (.invokestatic 137, 3) := by decide +kernel
theorem dX2_unlikePairs_24 : decode cX2_unlikePairs 24 = .ok (.istore 4, 2) := by decide +kernel
theorem dX2_unlikePairs_26 : decode cX2_unlikePairs 26 = .ok (.aload_n 1, 1) := by decide +kernel
theorem dX2_unlikePairs_27 : decode cX2_unlikePairs 27 = .ok (.iconst 0, 1) := by decide +kernel
theorem dX2_unlikePairs_28 : decode cX2_unlikePairs 28 = .ok (.iload_n 2, 1) := by decide +kernel
theorem dX2_unlikePairs_29 : decode cX2_unlikePairs 29 = .ok (.invokestatic 140, 3) := by decide +kernel
theorem dX2_unlikePairs_32 : decode cX2_unlikePairs 32 = .ok (.aload_n 1, 1) := by decide +kernel
theorem dX2_unlikePairs_33 : decode cX2_unlikePairs 33 = .ok (.iload_n 3, 1) := by decide +kernel
theorem dX2_unlikePairs_34 : decode cX2_unlikePairs 34 = .ok (.iload 4, 2) := by decide +kernel
theorem dX2_unlikePairs_36 : decode cX2_unlikePairs 36 = .ok (.invokestatic 140, 3) := by decide +kernel
theorem dX2_unlikePairs_39 : decode cX2_unlikePairs 39 = .ok (.iadd, 1) := by decide +kernel
theorem dX2_unlikePairs_40 : decode cX2_unlikePairs 40 = .ok (.ireturn, 1) := by decide +kernel
theorem dX2_partnerOf_0 : decode cX2_partnerOf 0 = .ok (.iload_n 3, 1) := by decide +kernel
theorem dX2_partnerOf_1 : decode cX2_partnerOf 1 = .ok (.ifCond .ne 18, 3) := by decide +kernel
theorem dX2_partnerOf_4 : decode cX2_partnerOf 4 = .ok (.aload_n 1, 1) := by decide +kernel
theorem dX2_partnerOf_5 : decode cX2_partnerOf 5 = .ok (.iload_n 2, 1) := by decide +kernel
theorem dX2_partnerOf_6 : decode cX2_partnerOf 6 = .ok (.invokevirtual 143, 3) := by decide +kernel
theorem dX2_partnerOf_9 : decode cX2_partnerOf 9 = .ok (.ifCond .eq 7, 3) := by decide +kernel
theorem dX2_partnerOf_12 : decode cX2_partnerOf 12 = .ok (.iload_n 2, 1) := by decide +kernel
theorem dX2_partnerOf_13 : decode cX2_partnerOf 13 = .ok (.goto 5, 3) := by decide +kernel
theorem dX2_partnerOf_16 : decode cX2_partnerOf 16 = .ok (.ldc 59, 2) := by decide +kernel
theorem dX2_partnerOf_18 : decode cX2_partnerOf 18 = .ok (.ireturn, 1) := by decide +kernel
theorem dX2_partnerOf_19 : decode cX2_partnerOf 19 = .ok (.iload_n 3, 1) := by decide +kernel
theorem dX2_partnerOf_20 : decode cX2_partnerOf 20 = .ok (.iload_n 2, 1) := by decide +kernel
theorem dX2_partnerOf_21 : decode cX2_partnerOf 21 = .ok (.if_icmp .ne 7, 3) := by decide +kernel
theorem dX2_partnerOf_24 : decode cX2_partnerOf 24 = .ok (.iconst 0, 1) := by decide +kernel
theorem dX2_partnerOf_25 : decode cX2_partnerOf 25 = .ok (.goto 9, 3) := by decide +kernel
theorem dX2_partnerOf_28 : decode cX2_partnerOf 28 = .ok (.aload_n 1, 1) := by decide +kernel
theorem dX2_partnerOf_29 : decode cX2_partnerOf 29 = .ok (.iload_n 2, 1) := by decide +kernel
theorem dX2_partnerOf_30 : decode cX2_partnerOf 30 = .ok (.iload_n 3, 1) := by decide +kernel
theorem dX2_partnerOf_31 : decode cX2_partnerOf 31 = .ok (.invokestatic 137, 3) := by decide +kernel
theorem dX2_partnerOf_34 : decode cX2_partnerOf 34 = .ok (.ireturn, 1) := by decide +kernel
theorem dX2_restBut_0 : decode cX2_restBut 0 = .ok (.iconst 1, 1) := by decide +kernel
theorem dX2_restBut_1 : decode cX2_restBut 1 = .ok (.istore_n 3, 1) := by decide +kernel
theorem dX2_restBut_2 : decode cX2_restBut 2 = .ok (.iload_n 3, 1) := by decide +kernel
theorem dX2_restBut_3 : decode cX2_restBut 3 = .ok (.aload_n 0, 1) := by decide +kernel
theorem dX2_restBut_4 : decode cX2_restBut 4 = .ok (.getfield 110, 3) := by decide +kernel
theorem dX2_restBut_7 : decode cX2_restBut 7 = .ok (.if_icmp .ge 21, 3) := by decide +kernel
theorem dX2_restBut_10 : decode cX2_restBut 10 = .ok (.iload_n 3, 1) := by decide +kernel
theorem dX2_restBut_11 : decode cX2_restBut 11 = .ok (.iload_n 1, 1) := by decide +kernel
theorem dX2_restBut_12 : decode cX2_restBut 12 = .ok (.if_icmp .eq 10, 3) := by decide +kernel
theorem dX2_restBut_15 : decode cX2_restBut 15 = .ok (.iload_n 3, 1) := by decide +kernel
theorem dX2_restBut_16 : decode cX2_restBut 16 = .ok (.iload_n 2, 1) := by decide +kernel
theorem dX2_restBut_17 : decode cX2_restBut 17 = .ok (.if_icmp .eq 5, 3) := by decide +kernel
theorem dX2_restBut_20 : decode cX2_restBut 20 = .ok (.iload_n 3, 1) := by decide +kernel
theorem dX2_restBut_21 : decode cX2_restBut 21 = .ok (.ireturn, 1) := by decide +kernel
theorem dX2_restBut_22 : decode cX2_restBut 22 = .ok (.iinc 3 1, 3) := by decide +kernel
theorem dX2_restBut_25 : decode cX2_restBut 25 = .ok (.goto (-23), 3) := by decide +kernel
theorem dX2_restBut_28 : decode cX2_restBut 28 = .ok (.ldc 59, 2) := by decide +kernel
theorem dX2_restBut_30 : decode cX2_restBut 30 = .ok (.ireturn, 1) := by decide +kernel
theorem dX2_unlike_0 : decode cX2_unlike 0 = .ok (.aload_n 0, 1) := by decide +kernel
theorem dX2_unlike_1 : decode cX2_unlike 1 = .ok (.iload_n 1, 1) := by decide +kernel
theorem dX2_unlike_2 : decode cX2_unlike 2 = .ok (.invokevirtual 143, 3) := by decide +kernel
theorem dX2_unlike_5 : decode cX2_unlike 5 = .ok (.ifCond .eq 11, 3) := by decide +kernel
theorem dX2_unlike_8 : decode cX2_unlike 8 = .ok (.aload_n 0, 1) := by decide +kernel
theorem dX2_unlike_9 : decode cX2_unlike 9 = .ok (.iload_n 2, 1) := by decide +kernel
theorem dX2_unlike_10 : decode cX2_unlike 10 = .ok (.invokevirtual 143, 3) := by decide +kernel
theorem dX2_unlike_13 : decode cX2_unlike 13 = .ok (.ifCond .ne 5, 3) := by decide +kernel
theorem dX2_unlike_16 : decode cX2_unlike 16 = .ok (.iconst 0, 1) := by decide +kernel
theorem dX2_unlike_17 : decode cX2_unlike 17 = .ok (.ireturn, 1) := by decide +kernel
theorem dX2_unlike_18 : decode cX2_unlike 18 = .ok (.iconst 0, 1) := by decide +kernel
theorem dX2_unlike_19 : decode cX2_unlike 19 = .ok (.istore_n 3, 1) := by decide +kernel
theorem dX2_unlike_20 : decode cX2_unlike 20 = .ok (.iconst 0, 1) := by decide +kernel
theorem dX2_unlike_21 : decode cX2_unlike 21 = .ok (.istore 4, 2) := by decide +kernel
theorem dX2_unlike_23 : decode cX2_unlike 23 = .ok (.iload 4, 2) := by decide +kernel
theorem dX2_unlike_25 : decode cX2_unlike 25 = .ok (.iconst 3, 1) := by decide +kernel
theorem dX2_unlike_26 : decode cX2_unlike 26 = .ok (.if_icmp .ge 38, 3) := by decide +kernel
theorem dX2_unlike_29 : decode cX2_unlike 29 = .ok (.iload_n 3, 1) := by decide +kernel
theorem dX2_unlike_30 : decode cX2_unlike 30 = .ok (.aload_n 0, 1) := by decide +kernel
theorem dX2_unlike_31 : decode cX2_unlike 31 = .ok (.getfield 117, 3) := by decide +kernel
theorem dX2_unlike_34 : decode cX2_unlike 34 = .ok (.iload_n 1, 1) := by decide +kernel
theorem dX2_unlike_35 : decode cX2_unlike 35 = .ok (.iload 4, 2) := by decide +kernel
theorem dX2_unlike_37 : decode cX2_unlike 37 = .ok (.invokestatic 53, 3) := by decide +kernel
theorem dX2_unlike_40 : decode cX2_unlike 40 = .ok (.iaload, 1) := by decide +kernel
theorem dX2_unlike_41 : decode cX2_unlike 41 = .ok (.aload_n 0, 1) := by decide +kernel
theorem dX2_unlike_42 : decode cX2_unlike 42 = .ok (.getfield 117, 3) := by decide +kernel
theorem dX2_unlike_45 : decode cX2_unlike 45 = .ok (.iload_n 2, 1) := by decide +kernel
theorem dX2_unlike_46 : decode cX2_unlike 46 = .ok (.iload 4, 2) := by decide +kernel
theorem dX2_unlike_48 : decode cX2_unlike 48 = .ok (.invokestatic 53, 3) := by decide +kernel
theorem dX2_unlike_51 : decode cX2_unlike 51 = .ok (.iaload, 1) := by decide +kernel
theorem dX2_unlike_52 : decode cX2_unlike 52 = .ok (.isub, 1) := by decide +kernel
theorem dX2_unlike_53 : decode cX2_unlike 53 = .ok (.invokestatic 104, 3) := by decide +kernel
theorem dX2_unlike_56 : decode cX2_unlike 56 = .ok (.iadd, 1) := by decide +kernel
theorem dX2_unlike_57 : decode cX2_unlike 57 = .ok (.istore_n 3, 1) := by decide +kernel
theorem dX2_unlike_58 : decode cX2_unlike 58 = .ok (.iinc 4 1, 3) := by decide +kernel
theorem dX2_unlike_61 : decode cX2_unlike 61 = .ok (.goto (-38), 3) := by decide +kernel
theorem dX2_unlike_64 : decode cX2_unlike 64 = .ok (.iload_n 3, 1) := by decide +kernel
theorem dX2_unlike_65 : decode cX2_unlike 65 = .ok (.ireturn, 1) := by decide +kernel
theorem dX3_init_0 : decode cX3_init 0 = .ok (.aload_n 0, 1) := by decide +kernel
theorem dX3_init_1 : decode cX3_init 1 = .ok (.iload_n 1, 1) := by decide +kernel
theorem dX3_init_2 : decode cX3_init 2 = .ok (.iload_n 2, 1) := by decide +kernel
theorem dX3_init_3 : decode cX3_init 3 = .ok (.invokespecial 3, 3) := by decide +kernel
theorem dX3_init_6 : decode cX3_init 6 = .ok (.return_, 1) := by decide +kernel
theorem dX3_sort_0 : decode cX3_sort 0 = .ok (.iconst 4, 1) := by decide +kernel
theorem dX3_sort_1 : decode cX3_sort 1 = .ok (.ireturn, 1) := by decide +kernel
theorem dX3_padding_0 : decode cX3_padding 0 = .ok (.iload_n 1, 1) := by decide +kernel
theorem dX3_padding_1 : decode cX3_padding 1 = .ok (.iconst 2, 1) := by decide +kernel
theorem dX3_padding_2 : decode cX3_padding 2 = .ok (.idiv, 1) := by decide +kernel
theorem dX3_padding_3 : decode cX3_padding 3 = .ok (.ireturn, 1) := by decide +kernel
theorem dX3_size_0 : decode cX3_size 0 = .ok (.aload_n 1, 1) := by decide +kernel
theorem dX3_size_1 : decode cX3_size 1 = .ok (.bipush 13, 2) := by decide +kernel
theorem dX3_size_3 : decode cX3_size 3 = .ok (.invokevirtual 9, 3) := by decide +kernel
theorem dX3_size_6 : decode cX3_size 6 = .ok (.aload_n 0, 1) := by decide +kernel
theorem dX3_size_7 : decode cX3_size 7 = .ok (.aload_n 1, 1) := by decide +kernel
theorem dX3_size_8 : decode cX3_size 8 = .ok (.invokespecial 15, 3) := by decide +kernel
theorem dX3_size_11 : decode cX3_size 11 = .ok (.bipush 100, 2) := by decide +kernel
theorem dX3_size_13 : decode cX3_size 13 = .ok (.isub, 1) := by decide +kernel
theorem dX3_size_14 : decode cX3_size 14 = .ok (.ireturn, 1) := by decide +kernel
theorem dX3_mark_0 : decode cX3_mark 0 = .ok (.aload_n 1, 1) := by decide +kernel
theorem dX3_mark_1 : decode cX3_mark 1 = .ok (.bipush 23, 2) := by decide +kernel
theorem dX3_mark_3 : decode cX3_mark 3 = .ok (.invokevirtual 9, 3) := by decide +kernel
theorem dX3_mark_6 : decode cX3_mark 6 = .ok (.aload_n 0, 1) := by decide +kernel
theorem dX3_mark_7 : decode cX3_mark 7 = .ok (.aload_n 1, 1) := by decide +kernel
theorem dX3_mark_8 : decode cX3_mark 8 = .ok (.invokespecial 19, 3) := by decide +kernel
theorem dX3_mark_11 : decode cX3_mark 11 = .ok (.aload_n 0, 1) := by decide +kernel
theorem dX3_mark_12 : decode cX3_mark 12 = .ok (.aload_n 1, 1) := by decide +kernel
theorem dX3_mark_13 : decode cX3_mark 13 = .ok (.invokevirtual 22, 3) := by decide +kernel
theorem dX3_mark_16 : decode cX3_mark 16 = .ok (.isub, 1) := by decide +kernel
theorem dX3_mark_17 : decode cX3_mark 17 = .ok (.ireturn, 1) := by decide +kernel
theorem dX4_init_0 : decode cX4_init 0 = .ok (.aload_n 0, 1) := by decide +kernel
theorem dX4_init_1 : decode cX4_init 1 = .ok (.invokespecial 1, 3) := by decide +kernel
theorem dX4_init_4 : decode cX4_init 4 = .ok (.aload_n 0, 1) := by decide +kernel
theorem dX4_init_5 : decode cX4_init 5 = .ok (.iload_n 1, 1) := by decide +kernel
theorem dX4_init_6 : decode cX4_init 6 = .ok (.putfield 7, 3) := by decide +kernel
theorem dX4_init_9 : decode cX4_init 9 = .ok (.aload_n 0, 1) := by decide +kernel
theorem dX4_init_10 : decode cX4_init 10 = .ok (.iload_n 2, 1) := by decide +kernel
theorem dX4_init_11 : decode cX4_init 11 = .ok (.putfield 13, 3) := by decide +kernel
theorem dX4_init_14 : decode cX4_init 14 = .ok (.return_, 1) := by decide +kernel
theorem dX4_size_0 : decode cX4_size 0 = .ok (.aload_n 1, 1) := by decide +kernel
theorem dX4_size_1 : decode cX4_size 1 = .ok (.bipush 10, 2) := by decide +kernel
theorem dX4_size_3 : decode cX4_size 3 = .ok (.invokevirtual 16, 3) := by decide +kernel
theorem dX4_size_6 : decode cX4_size 6 = .ok (.aload_n 0, 1) := by decide +kernel
theorem dX4_size_7 : decode cX4_size 7 = .ok (.getfield 13, 3) := by decide +kernel
theorem dX4_size_10 : decode cX4_size 10 = .ok (.ireturn, 1) := by decide +kernel
theorem dX4_mark_0 : decode cX4_mark 0 = .ok (.aload_n 1, 1) := by decide +kernel
theorem dX4_mark_1 : decode cX4_mark 1 = .ok (.bipush 20, 2) := by decide +kernel
theorem dX4_mark_3 : decode cX4_mark 3 = .ok (.invokevirtual 16, 3) := by decide +kernel
theorem dX4_mark_6 : decode cX4_mark 6 = .ok (.aload_n 0, 1) := by decide +kernel
theorem dX4_mark_7 : decode cX4_mark 7 = .ok (.getfield 7, 3) := by decide +kernel
theorem dX4_mark_10 : decode cX4_mark 10 = .ok (.ireturn, 1) := by decide +kernel
theorem dX5_init_0 : decode cX5_init 0 = .ok (.aload_n 0, 1) := by decide +kernel
theorem dX5_init_1 : decode cX5_init 1 = .ok (.iload_n 1, 1) := by decide +kernel
theorem dX5_init_2 : decode cX5_init 2 = .ok (.iload_n 2, 1) := by decide +kernel
theorem dX5_init_3 : decode cX5_init 3 = .ok (.invokespecial 3, 3) := by decide +kernel
theorem dX5_init_6 : decode cX5_init 6 = .ok (.return_, 1) := by decide +kernel
theorem dX5_sort_0 : decode cX5_sort 0 = .ok (.iconst 3, 1) := by decide +kernel
theorem dX5_sort_1 : decode cX5_sort 1 = .ok (.ireturn, 1) := by decide +kernel
theorem dX5_padding_0 : decode cX5_padding 0 = .ok (.iload_n 1, 1) := by decide +kernel
theorem dX5_padding_1 : decode cX5_padding 1 = .ok (.ineg, 1) := by decide +kernel
theorem dX5_padding_2 : decode cX5_padding 2 = .ok (.ireturn, 1) := by decide +kernel
theorem dX5_mark_0 : decode cX5_mark 0 = .ok (.aload_n 1, 1) := by decide +kernel
theorem dX5_mark_1 : decode cX5_mark 1 = .ok (.bipush 22, 2) := by decide +kernel
theorem dX5_mark_3 : decode cX5_mark 3 = .ok (.invokevirtual 9, 3) := by decide +kernel
theorem dX5_mark_6 : decode cX5_mark 6 = .ok (.aload_n 0, 1) := by decide +kernel
theorem dX5_mark_7 : decode cX5_mark 7 = .ok (.aload_n 1, 1) := by decide +kernel
theorem dX5_mark_8 : decode cX5_mark 8 = .ok (.invokespecial 15, 3) := by decide +kernel
theorem dX5_mark_11 : decode cX5_mark 11 = .ok (.sipush 1000, 3) := by decide +kernel
theorem dX5_mark_14 : decode cX5_mark 14 = .ok (.isub, 1) := by decide +kernel
theorem dX5_mark_15 : decode cX5_mark 15 = .ok (.ireturn, 1) := by decide +kernel
theorem dX6_init_0 : decode cX6_init 0 = .ok (.aload_n 0, 1) := by decide +kernel
theorem dX6_init_1 : decode cX6_init 1 = .ok (.invokespecial 3, 3) := by decide +kernel
theorem dX6_init_4 : decode cX6_init 4 = .ok (.aload_n 0, 1) := by decide +kernel
theorem dX6_init_5 : decode cX6_init 5 = .ok (.bipush 8, 2) := by decide +kernel
theorem dX6_init_7 : decode cX6_init 7 = .ok (.bipush 40, 2) := by decide +kernel
theorem dX6_init_9 : decode cX6_init 9 = .ok (.multianewarray 11 2, 4) := by decide +kernel
theorem dX6_init_13 : decode cX6_init 13 = .ok (.putfield 13, 3) := by decide +kernel
theorem dX6_init_16 : decode cX6_init 16 = .ok (.aload_n 0, 1) := by decide +kernel
theorem dX6_init_17 : decode cX6_init 17 = .ok (.bipush 8, 2) := by decide +kernel
theorem dX6_init_19 : decode cX6_init 19 = .ok (.newarray .int, 2) := by decide +kernel
theorem dX6_init_21 : decode cX6_init 21 = .ok (.putfield 16, 3) := by decide +kernel
theorem dX6_init_24 : decode cX6_init 24 = .ok (.aload_n 0, 1) := by decide +kernel
theorem dX6_init_25 : decode cX6_init 25 = .ok (.bipush 8, 2) := by decide +kernel
theorem dX6_init_27 : decode cX6_init 27 = .ok (.newarray .int, 2) := by decide +kernel
theorem dX6_init_29 : decode cX6_init 29 = .ok (.putfield 20, 3) := by decide +kernel
theorem dX6_init_32 : decode cX6_init 32 = .ok (.aload_n 0, 1) := by decide +kernel
theorem dX6_init_33 : decode cX6_init 33 = .ok (.bipush 8, 2) := by decide +kernel
theorem dX6_init_35 : decode cX6_init 35 = .ok (.newarray .boolean, 2) := by decide +kernel
theorem dX6_init_37 : decode cX6_init 37 = .ok (.putfield 23, 3) := by decide +kernel
theorem dX6_init_40 : decode cX6_init 40 = .ok (.return_, 1) := by decide +kernel
theorem dX6_isRow_0 : decode cX6_isRow 0 = .ok (.iload_n 0, 1) := by decide +kernel
theorem dX6_isRow_1 : decode cX6_isRow 1 = .ok (.ifCond .lt 13, 3) := by decide +kernel
theorem dX6_isRow_4 : decode cX6_isRow 4 = .ok (.iload_n 0, 1) := by decide +kernel
theorem dX6_isRow_5 : decode cX6_isRow 5 = .ok (.bipush 8, 2) := by decide +kernel
theorem dX6_isRow_7 : decode cX6_isRow 7 = .ok (.if_icmp .ge 7, 3) := by decide +kernel
theorem dX6_isRow_10 : decode cX6_isRow 10 = .ok (.iconst 1, 1) := by decide +kernel
theorem dX6_isRow_11 : decode cX6_isRow 11 = .ok (.goto 4, 3) := by decide +kernel
theorem dX6_isRow_14 : decode cX6_isRow 14 = .ok (.iconst 0, 1) := by decide +kernel
theorem dX6_isRow_15 : decode cX6_isRow 15 = .ok (.ireturn, 1) := by decide +kernel
theorem dX6_isLane_0 : decode cX6_isLane 0 = .ok (.iload_n 0, 1) := by decide +kernel
theorem dX6_isLane_1 : decode cX6_isLane 1 = .ok (.ifCond .lt 12, 3) := by decide +kernel
theorem dX6_isLane_4 : decode cX6_isLane 4 = .ok (.iload_n 0, 1) := by decide +kernel
theorem dX6_isLane_5 : decode cX6_isLane 5 = .ok (.iconst 2, 1) := by decide +kernel
theorem dX6_isLane_6 : decode cX6_isLane 6 = .ok (.if_icmp .gt 7, 3) := by decide +kernel
theorem dX6_isLane_9 : decode cX6_isLane 9 = .ok (.iconst 1, 1) := by decide +kernel
theorem dX6_isLane_10 : decode cX6_isLane 10 = .ok (.goto 4, 3) := by decide +kernel
theorem dX6_isLane_13 : decode cX6_isLane 13 = .ok (.iconst 0, 1) := by decide +kernel
theorem dX6_isLane_14 : decode cX6_isLane 14 = .ok (.ireturn, 1) := by decide +kernel
theorem dX6_isMissing_0 : decode cX6_isMissing 0 = .ok (.aload_n 0, 1) := by decide +kernel
theorem dX6_isMissing_1 : decode cX6_isMissing 1 = .ok (.getfield 23, 3) := by decide +kernel
theorem dX6_isMissing_4 : decode cX6_isMissing 4 = .ok (.iload_n 1, 1) := by decide +kernel
theorem dX6_isMissing_5 : decode cX6_isMissing 5 = .ok (.baload, 1) := by decide +kernel
theorem dX6_isMissing_6 : decode cX6_isMissing 6 = .ok (.ifCond .ne 7, 3) := by decide +kernel
theorem dX6_isMissing_9 : decode cX6_isMissing 9 = .ok (.iconst 1, 1) := by decide +kernel
theorem dX6_isMissing_10 : decode cX6_isMissing 10 = .ok (.goto 4, 3) := by decide +kernel
theorem dX6_isMissing_13 : decode cX6_isMissing 13 = .ok (.iconst 0, 1) := by decide +kernel
theorem dX6_isMissing_14 : decode cX6_isMissing 14 = .ok (.ireturn, 1) := by decide +kernel
theorem dX6_lay_0 : decode cX6_lay 0 = .ok (.aload_n 0, 1) := by decide +kernel
theorem dX6_lay_1 : decode cX6_lay 1 = .ok (.getfield 23, 3) := by decide +kernel
theorem dX6_lay_4 : decode cX6_lay 4 = .ok (.iload_n 1, 1) := by decide +kernel
theorem dX6_lay_5 : decode cX6_lay 5 = .ok (.iconst 1, 1) := by decide +kernel
theorem dX6_lay_6 : decode cX6_lay 6 = .ok (.bastore, 1) := by decide +kernel
theorem dX6_lay_7 : decode cX6_lay 7 = .ok (.aload_n 0, 1) := by decide +kernel
theorem dX6_lay_8 : decode cX6_lay 8 = .ok (.getfield 16, 3) := by decide +kernel
theorem dX6_lay_11 : decode cX6_lay 11 = .ok (.iload_n 1, 1) := by decide +kernel
theorem dX6_lay_12 : decode cX6_lay 12 = .ok (.iload_n 2, 1) := by decide +kernel
theorem dX6_lay_13 : decode cX6_lay 13 = .ok (.iastore, 1) := by decide +kernel
theorem dX6_lay_14 : decode cX6_lay 14 = .ok (.aload_n 0, 1) := by decide +kernel
theorem dX6_lay_15 : decode cX6_lay 15 = .ok (.getfield 20, 3) := by decide +kernel
theorem dX6_lay_18 : decode cX6_lay 18 = .ok (.iload_n 1, 1) := by decide +kernel
theorem dX6_lay_19 : decode cX6_lay 19 = .ok (.iload_n 3, 1) := by decide +kernel
theorem dX6_lay_20 : decode cX6_lay 20 = .ok (.iastore, 1) := by decide +kernel
theorem dX6_lay_21 : decode cX6_lay 21 = .ok (.aload_n 0, 1) := by decide +kernel
theorem dX6_lay_22 : decode cX6_lay 22 = .ok (.getfield 13, 3) := by decide +kernel
theorem dX6_lay_25 : decode cX6_lay 25 = .ok (.iload_n 1, 1) := by decide +kernel
theorem dX6_lay_26 : decode cX6_lay 26 = .ok (.aaload, 1) := by decide +kernel
theorem dX6_lay_27 : decode cX6_lay 27 = .ok (.iconst 0, 1) := by decide +kernel
theorem dX6_lay_28 : decode cX6_lay 28 = .ok (.invokestatic 27, 3) := by decide +kernel
theorem dX6_lay_31 : decode cX6_lay 31 = .ok (.return_, 1) := by decide +kernel
theorem dX6_lose_0 : decode cX6_lose 0 = .ok (.aload_n 0, 1) := by decide +kernel
theorem dX6_lose_1 : decode cX6_lose 1 = .ok (.getfield 23, 3) := by decide +kernel
theorem dX6_lose_4 : decode cX6_lose 4 = .ok (.iload_n 1, 1) := by decide +kernel
theorem dX6_lose_5 : decode cX6_lose 5 = .ok (.iconst 0, 1) := by decide +kernel
theorem dX6_lose_6 : decode cX6_lose 6 = .ok (.bastore, 1) := by decide +kernel
theorem dX6_lose_7 : decode cX6_lose 7 = .ok (.aload_n 0, 1) := by decide +kernel
theorem dX6_lose_8 : decode cX6_lose 8 = .ok (.getfield 20, 3) := by decide +kernel
theorem dX6_lose_11 : decode cX6_lose 11 = .ok (.iload_n 1, 1) := by decide +kernel
theorem dX6_lose_12 : decode cX6_lose 12 = .ok (.iaload, 1) := by decide +kernel
theorem dX6_lose_13 : decode cX6_lose 13 = .ok (.ireturn, 1) := by decide +kernel
theorem dX6_findingAt_0 : decode cX6_findingAt 0 = .ok (.aload_n 0, 1) := by decide +kernel
theorem dX6_findingAt_1 : decode cX6_findingAt 1 = .ok (.iload_n 1, 1) := by decide +kernel
theorem dX6_findingAt_2 : decode cX6_findingAt 2 = .ok (.invokevirtual 33, 3) := by decide +kernel
theorem dX6_findingAt_5 : decode cX6_findingAt 5 = .ok (.ifCond .eq 5, 3) := by decide +kernel
theorem dX6_findingAt_8 : decode cX6_findingAt 8 = .ok (.iconst 1, 1) := by decide +kernel
theorem dX6_findingAt_9 : decode cX6_findingAt 9 = .ok (.ireturn, 1) := by decide +kernel
theorem dX6_findingAt_10 : decode cX6_findingAt 10 = .ok (.aload_n 0, 1) := by decide +kernel
theorem dX6_findingAt_11 : decode cX6_findingAt 11 = .ok (.iload_n 1, 1) := by decide +kernel
theorem dX6_findingAt_12 : decode cX6_findingAt 12 = .ok (.iload_n 2, 1) := by decide +kernel
theorem dX6_findingAt_13 : decode cX6_findingAt 13 = .ok (.iload_n 3, 1) := by decide +kernel
theorem dX6_findingAt_14 : decode cX6_findingAt 14 = .ok (.invokevirtual 37, 3) := by decide +kernel
theorem dX6_findingAt_17 : decode cX6_findingAt 17 = .ok (.ifCond .eq 7, 3) := by decide +kernel
theorem dX6_findingAt_20 : decode cX6_findingAt 20 = .ok (.iconst 0, 1) := by decide +kernel
theorem dX6_findingAt_21 : decode cX6_findingAt 21 = .ok (.goto 4, 3) := by decide +kernel
theorem dX6_findingAt_24 : decode cX6_findingAt 24 = .ok (.iconst 2, 1) := by decide +kernel
theorem dX6_findingAt_25 : decode cX6_findingAt 25 = .ok (.ireturn, 1) := by decide +kernel
theorem dX6_findingOfMove_0 : decode cX6_findingOfMove 0 = .ok (.aload_n 0, 1) := by decide +kernel
theorem dX6_findingOfMove_1 : decode cX6_findingOfMove 1 = .ok (.iload_n 1, 1) := by decide +kernel
theorem dX6_findingOfMove_2 : decode cX6_findingOfMove 2 = .ok (.invokevirtual 33, 3) := by decide +kernel
theorem dX6_findingOfMove_5 : decode cX6_findingOfMove 5 = .ok (.ifCond .ne 11, 3) := by decide +kernel
theorem dX6_findingOfMove_8 : decode cX6_findingOfMove 8 = .ok (.aload_n 0, 1) := by decide +kernel
theorem dX6_findingOfMove_9 : decode cX6_findingOfMove 9 = .ok (.iload_n 3, 1) := by decide +kernel
theorem dX6_findingOfMove_10 : decode cX6_findingOfMove 10 = .ok (.invokevirtual 33, 3) := by decide +kernel
theorem dX6_findingOfMove_13 : decode cX6_findingOfMove 13 = .ok (.ifCond .eq 5, 3) := by decide +kernel
theorem dX6_findingOfMove_16 : decode cX6_findingOfMove 16 = .ok (.iconst 1, 1) := by decide +kernel
theorem dX6_findingOfMove_17 : decode cX6_findingOfMove 17 = .ok (.ireturn, 1) := by decide +kernel
theorem dX6_findingOfMove_18 : decode cX6_findingOfMove 18 = .ok (.aload_n 0, 1) := by decide +kernel
theorem dX6_findingOfMove_19 : decode cX6_findingOfMove 19 = .ok (.getfield 16, 3) := by decide +kernel
theorem dX6_findingOfMove_22 : decode cX6_findingOfMove 22 = .ok (.iload_n 1, 1) := by decide +kernel
theorem dX6_findingOfMove_23 : decode cX6_findingOfMove 23 = .ok (.iaload, 1) := by decide +kernel
theorem dX6_findingOfMove_24 : decode cX6_findingOfMove 24 = .ok (.aload_n 0, 1) := by decide +kernel
theorem dX6_findingOfMove_25 : decode cX6_findingOfMove 25 = .ok (.getfield 16, 3) := by decide +kernel
theorem dX6_findingOfMove_28 : decode cX6_findingOfMove 28 = .ok (.iload_n 3, 1) := by decide +kernel
theorem dX6_findingOfMove_29 : decode cX6_findingOfMove 29 = .ok (.iaload, 1) := by decide +kernel
theorem dX6_findingOfMove_30 : decode cX6_findingOfMove 30 = .ok (.if_icmp .eq 5, 3) := by decide +kernel
theorem dX6_findingOfMove_33 : decode cX6_findingOfMove 33 = .ok (.iconst 5, 1) := by decide +kernel
theorem dX6_findingOfMove_34 : decode cX6_findingOfMove 34 = .ok (.ireturn, 1) := by decide +kernel
theorem dX6_findingOfMove_35 : decode cX6_findingOfMove 35 = .ok (.aload_n 0, 1) := by decide +kernel
theorem dX6_findingOfMove_36 : decode cX6_findingOfMove 36 = .ok (.iload_n 1, 1) := by decide +kernel
theorem dX6_findingOfMove_37 : decode cX6_findingOfMove 37 = .ok (.iload_n 2, 1) := by decide +kernel
theorem dX6_findingOfMove_38 : decode cX6_findingOfMove 38 = .ok (.iload 5, 2) := by decide +kernel
theorem dX6_findingOfMove_40 : decode cX6_findingOfMove 40 = .ok (.invokevirtual 37, 3) := by decide +kernel
theorem dX6_findingOfMove_43 : decode cX6_findingOfMove 43 = .ok (.ifCond .eq 19, 3) := by decide +kernel
theorem dX6_findingOfMove_46 : decode cX6_findingOfMove 46 = .ok (.aload_n 0, 1) := by decide +kernel
theorem dX6_findingOfMove_47 : decode cX6_findingOfMove 47 = .ok (.iload_n 3, 1) := by decide +kernel
theorem dX6_findingOfMove_48 : decode cX6_findingOfMove 48 = .ok (.iload 4, 2) := by decide +kernel
theorem dX6_findingOfMove_50 : decode cX6_findingOfMove 50 = .ok (.iload 5, 2) := by decide +kernel
theorem dX6_findingOfMove_52 : decode cX6_findingOfMove 52 = .ok (.invokevirtual 37, 3) := by decide +kernel
theorem dX6_findingOfMove_55 : decode cX6_findingOfMove 55 = .ok (.ifCond .eq 7, 3) := by decide +kernel
theorem dX6_findingOfMove_58 : decode cX6_findingOfMove 58 = .ok (.iconst 0, 1) := by decide +kernel
theorem dX6_findingOfMove_59 : decode cX6_findingOfMove 59 = .ok (.goto 4, 3) := by decide +kernel
theorem dX6_findingOfMove_62 : decode cX6_findingOfMove 62 = .ok (.iconst 2, 1) := by decide +kernel
theorem dX6_findingOfMove_63 : decode cX6_findingOfMove 63 = .ok (.ireturn, 1) := by decide +kernel
theorem dX6_holds_0 : decode cX6_holds 0 = .ok (.iload_n 2, 1) := by decide +kernel
theorem dX6_holds_1 : decode cX6_holds 1 = .ok (.ifCond .lt 33, 3) := by decide +kernel
theorem dX6_holds_4 : decode cX6_holds 4 = .ok (.iload_n 3, 1) := by decide +kernel
theorem dX6_holds_5 : decode cX6_holds 5 = .ok (.ifCond .lt 29, 3) := by decide +kernel
theorem dX6_holds_8 : decode cX6_holds 8 = .ok (.iload_n 2, 1) := by decide +kernel
theorem dX6_holds_9 : decode cX6_holds 9 = .ok (.aload_n 0, 1) := by decide +kernel
theorem dX6_holds_10 : decode cX6_holds 10 = .ok (.getfield 20, 3) := by decide +kernel
theorem dX6_holds_13 : decode cX6_holds 13 = .ok (.iload_n 1, 1) := by decide +kernel
theorem dX6_holds_14 : decode cX6_holds 14 = .ok (.iaload, 1) := by decide +kernel
theorem dX6_holds_15 : decode cX6_holds 15 = .ok (.if_icmp .gt 19, 3) := by decide +kernel
theorem dX6_holds_18 : decode cX6_holds 18 = .ok (.iload_n 3, 1) := by decide +kernel
theorem dX6_holds_19 : decode cX6_holds 19 = .ok (.aload_n 0, 1) := by decide +kernel
theorem dX6_holds_20 : decode cX6_holds 20 = .ok (.getfield 20, 3) := by decide +kernel
theorem dX6_holds_23 : decode cX6_holds 23 = .ok (.iload_n 1, 1) := by decide +kernel
theorem dX6_holds_24 : decode cX6_holds 24 = .ok (.iaload, 1) := by decide +kernel
theorem dX6_holds_25 : decode cX6_holds 25 = .ok (.iload_n 2, 1) := by decide +kernel
theorem dX6_holds_26 : decode cX6_holds 26 = .ok (.isub, 1) := by decide +kernel
theorem dX6_holds_27 : decode cX6_holds 27 = .ok (.if_icmp .gt 7, 3) := by decide +kernel
theorem dX6_holds_30 : decode cX6_holds 30 = .ok (.iconst 1, 1) := by decide +kernel
theorem dX6_holds_31 : decode cX6_holds 31 = .ok (.goto 4, 3) := by decide +kernel
theorem dX6_holds_34 : decode cX6_holds 34 = .ok (.iconst 0, 1) := by decide +kernel
theorem dX6_holds_35 : decode cX6_holds 35 = .ok (.ireturn, 1) := by decide +kernel
theorem dX6_move_0 : decode cX6_move 0 = .ok (.aload_n 0, 1) := by decide +kernel
theorem dX6_move_1 : decode cX6_move 1 = .ok (.getfield 13, 3) := by decide +kernel
theorem dX6_move_4 : decode cX6_move 4 = .ok (.iload_n 1, 1) := by decide +kernel
theorem dX6_move_5 : decode cX6_move 5 = .ok (.aaload, 1) := by decide +kernel
theorem dX6_move_6 : decode cX6_move 6 = .ok (.iload_n 2, 1) := by decide +kernel
theorem dX6_move_7 : decode cX6_move 7 = .ok (.aload_n 0, 1) := by decide +kernel
theorem dX6_move_8 : decode cX6_move 8 = .ok (.getfield 13, 3) := by decide +kernel
theorem dX6_move_11 : decode cX6_move 11 = .ok (.iload_n 3, 1) := by decide +kernel
theorem dX6_move_12 : decode cX6_move 12 = .ok (.aaload, 1) := by decide +kernel
theorem dX6_move_13 : decode cX6_move 13 = .ok (.iload 4, 2) := by decide +kernel
theorem dX6_move_15 : decode cX6_move 15 = .ok (.iload 5, 2) := by decide +kernel
theorem dX6_move_17 : decode cX6_move 17 = .ok (.invokestatic 41, 3) := by decide +kernel
theorem dX6_move_20 : decode cX6_move 20 = .ok (.return_, 1) := by decide +kernel
theorem dX6_put_0 : decode cX6_put 0 = .ok (.aload_n 0, 1) := by decide +kernel
theorem dX6_put_1 : decode cX6_put 1 = .ok (.getfield 13, 3) := by decide +kernel
theorem dX6_put_4 : decode cX6_put 4 = .ok (.iload_n 1, 1) := by decide +kernel
theorem dX6_put_5 : decode cX6_put 5 = .ok (.aaload, 1) := by decide +kernel
theorem dX6_put_6 : decode cX6_put 6 = .ok (.iload_n 2, 1) := by decide +kernel
theorem dX6_put_7 : decode cX6_put 7 = .ok (.iload_n 3, 1) := by decide +kernel
theorem dX6_put_8 : decode cX6_put 8 = .ok (.aload_n 0, 1) := by decide +kernel
theorem dX6_put_9 : decode cX6_put 9 = .ok (.getfield 16, 3) := by decide +kernel
theorem dX6_put_12 : decode cX6_put 12 = .ok (.iload_n 1, 1) := by decide +kernel
theorem dX6_put_13 : decode cX6_put 13 = .ok (.iaload, 1) := by decide +kernel
theorem dX6_put_14 : decode cX6_put 14 = .ok (.invokestatic 47, 3) := by decide +kernel
theorem dX6_put_17 : decode cX6_put 17 = .ok (.iastore, 1) := by decide +kernel
theorem dX6_put_18 : decode cX6_put 18 = .ok (.aload_n 0, 1) := by decide +kernel
theorem dX6_put_19 : decode cX6_put 19 = .ok (.getfield 13, 3) := by decide +kernel
theorem dX6_put_22 : decode cX6_put 22 = .ok (.iload_n 1, 1) := by decide +kernel
theorem dX6_put_23 : decode cX6_put 23 = .ok (.aaload, 1) := by decide +kernel
theorem dX6_put_24 : decode cX6_put 24 = .ok (.iload_n 2, 1) := by decide +kernel
theorem dX6_put_25 : decode cX6_put 25 = .ok (.iaload, 1) := by decide +kernel
theorem dX6_put_26 : decode cX6_put 26 = .ok (.ireturn, 1) := by decide +kernel
theorem dX6_cut_0 : decode cX6_cut 0 = .ok (.iload_n 1, 1) := by decide +kernel
theorem dX6_cut_1 : decode cX6_cut 1 = .ok (.lookupswitch 33 #[(0, 27), (1, 30)], 27) := by decide +kernel
theorem dX6_cut_28 : decode cX6_cut 28 = .ok (.iload_n 0, 1) := by decide +kernel
theorem dX6_cut_29 : decode cX6_cut 29 = .ok (.i2b, 1) := by decide +kernel
theorem dX6_cut_30 : decode cX6_cut 30 = .ok (.ireturn, 1) := by decide +kernel
theorem dX6_cut_31 : decode cX6_cut 31 = .ok (.iload_n 0, 1) := by decide +kernel
theorem dX6_cut_32 : decode cX6_cut 32 = .ok (.i2s, 1) := by decide +kernel
theorem dX6_cut_33 : decode cX6_cut 33 = .ok (.ireturn, 1) := by decide +kernel
theorem dX6_cut_34 : decode cX6_cut 34 = .ok (.iload_n 0, 1) := by decide +kernel
theorem dX6_cut_35 : decode cX6_cut 35 = .ok (.ireturn, 1) := by decide +kernel
theorem dX6_item_0 : decode cX6_item 0 = .ok (.aload_n 0, 1) := by decide +kernel
theorem dX6_item_1 : decode cX6_item 1 = .ok (.getfield 13, 3) := by decide +kernel
theorem dX6_item_4 : decode cX6_item 4 = .ok (.iload_n 1, 1) := by decide +kernel
theorem dX6_item_5 : decode cX6_item 5 = .ok (.aaload, 1) := by decide +kernel
theorem dX6_item_6 : decode cX6_item 6 = .ok (.iload_n 2, 1) := by decide +kernel
theorem dX6_item_7 : decode cX6_item 7 = .ok (.iaload, 1) := by decide +kernel
theorem dX6_item_8 : decode cX6_item 8 = .ok (.ireturn, 1) := by decide +kernel
theorem dX6_there_0 : decode cX6_there 0 = .ok (.iconst 0, 1) := by decide +kernel
theorem dX6_there_1 : decode cX6_there 1 = .ok (.istore_n 1, 1) := by decide +kernel
theorem dX6_there_2 : decode cX6_there 2 = .ok (.iconst 0, 1) := by decide +kernel
theorem dX6_there_3 : decode cX6_there 3 = .ok (.istore_n 2, 1) := by decide +kernel
theorem dX6_there_4 : decode cX6_there 4 = .ok (.iload_n 2, 1) := by decide +kernel
theorem dX6_there_5 : decode cX6_there 5 = .ok (.bipush 8, 2) := by decide +kernel
theorem dX6_there_7 : decode cX6_there 7 = .ok (.if_icmp .ge 21, 3) := by decide +kernel
theorem dX6_there_10 : decode cX6_there 10 = .ok (.aload_n 0, 1) := by decide +kernel
theorem dX6_there_11 : decode cX6_there 11 = .ok (.getfield 23, 3) := by decide +kernel
theorem dX6_there_14 : decode cX6_there 14 = .ok (.iload_n 2, 1) := by decide +kernel
theorem dX6_there_15 : decode cX6_there 15 = .ok (.baload, 1) := by decide +kernel
theorem dX6_there_16 : decode cX6_there 16 = .ok (.ifCond .eq 6, 3) := by decide +kernel
theorem dX6_there_19 : decode cX6_there 19 = .ok (.iinc 1 1, 3) := by decide +kernel
theorem dX6_there_22 : decode cX6_there 22 = .ok (.iinc 2 1, 3) := by decide +kernel
theorem dX6_there_25 : decode cX6_there 25 = .ok (.goto (-21), 3) := by decide +kernel
theorem dX6_there_28 : decode cX6_there 28 = .ok (.iload_n 1, 1) := by decide +kernel
theorem dX6_there_29 : decode cX6_there 29 = .ok (.ireturn, 1) := by decide +kernel
theorem dX7_init_0 : decode cX7_init 0 = .ok (.aload_n 0, 1) := by decide +kernel
theorem dX7_init_1 : decode cX7_init 1 = .ok (.iload_n 1, 1) := by decide +kernel
theorem dX7_init_2 : decode cX7_init 2 = .ok (.iload_n 2, 1) := by decide +kernel
theorem dX7_init_3 : decode cX7_init 3 = .ok (.invokespecial 3, 3) := by decide +kernel
theorem dX7_init_6 : decode cX7_init 6 = .ok (.return_, 1) := by decide +kernel
theorem dX7_sort_0 : decode cX7_sort 0 = .ok (.iconst 5, 1) := by decide +kernel
theorem dX7_sort_1 : decode cX7_sort 1 = .ok (.ireturn, 1) := by decide +kernel
theorem dX7_padding_0 : decode cX7_padding 0 = .ok (.iload_n 1, 1) := by decide +kernel
theorem dX7_padding_1 : decode cX7_padding 1 = .ok (.iconst 2, 1) := by decide +kernel
theorem dX7_padding_2 : decode cX7_padding 2 = .ok (.idiv, 1) := by decide +kernel
theorem dX7_padding_3 : decode cX7_padding 3 = .ok (.ineg, 1) := by decide +kernel
theorem dX7_padding_4 : decode cX7_padding 4 = .ok (.ireturn, 1) := by decide +kernel
theorem dX7_size_0 : decode cX7_size 0 = .ok (.aload_n 1, 1) := by decide +kernel
theorem dX7_size_1 : decode cX7_size 1 = .ok (.bipush 14, 2) := by decide +kernel
theorem dX7_size_3 : decode cX7_size 3 = .ok (.invokevirtual 9, 3) := by decide +kernel
theorem dX7_size_6 : decode cX7_size 6 = .ok (.iconst 2, 1) := by decide +kernel
theorem dX7_size_7 : decode cX7_size 7 = .ok (.aload_n 0, 1) := by decide +kernel
theorem dX7_size_8 : decode cX7_size 8 = .ok (.aload_n 1, 1) := by decide +kernel
theorem dX7_size_9 : decode cX7_size 9 = .ok (.invokespecial 15, 3) := by decide +kernel
theorem dX7_size_12 : decode cX7_size 12 = .ok (.imul, 1) := by decide +kernel
theorem dX7_size_13 : decode cX7_size 13 = .ok (.ireturn, 1) := by decide +kernel
theorem dX8_init_0 : decode cX8_init 0 = .ok (.aload_n 0, 1) := by decide +kernel
theorem dX8_init_1 : decode cX8_init 1 = .ok (.invokespecial 3, 3) := by decide +kernel
theorem dX8_init_4 : decode cX8_init 4 = .ok (.aload_n 0, 1) := by decide +kernel
theorem dX8_init_5 : decode cX8_init 5 = .ok (.bipush 12, 2) := by decide +kernel
theorem dX8_init_7 : decode cX8_init 7 = .ok (.newarray .int, 2) := by decide +kernel
theorem dX8_init_9 : decode cX8_init 9 = .ok (.putfield 9, 3) := by decide +kernel
theorem dX8_init_12 : decode cX8_init 12 = .ok (.aload_n 0, 1) := by decide +kernel
theorem dX8_init_13 : decode cX8_init 13 = .ok (.bipush 12, 2) := by decide +kernel
theorem dX8_init_15 : decode cX8_init 15 = .ok (.newarray .int, 2) := by decide +kernel
theorem dX8_init_17 : decode cX8_init 17 = .ok (.putfield 15, 3) := by decide +kernel
theorem dX8_init_20 : decode cX8_init 20 = .ok (.aload_n 0, 1) := by decide +kernel
theorem dX8_init_21 : decode cX8_init 21 = .ok (.bipush 12, 2) := by decide +kernel
theorem dX8_init_23 : decode cX8_init 23 = .ok (.newarray .int, 2) := by decide +kernel
theorem dX8_init_25 : decode cX8_init 25 = .ok (.putfield 18, 3) := by decide +kernel
theorem dX8_init_28 : decode cX8_init 28 = .ok (.aload_n 0, 1) := by decide +kernel
theorem dX8_init_29 : decode cX8_init 29 = .ok (.iconst 5, 1) := by decide +kernel
theorem dX8_init_30 : decode cX8_init 30 = .ok (.anewarray 21, 3) := by decide +kernel
theorem dX8_init_33 : decode cX8_init 33 = .ok (.putfield 23, 3) := by decide +kernel
theorem dX8_init_36 : decode cX8_init 36 = .ok (.aload_n 0, 1) := by decide +kernel
theorem dX8_init_37 : decode cX8_init 37 = .ok (.bipush 96, 2) := by decide +kernel
theorem dX8_init_39 : decode cX8_init 39 = .ok (.newarray .int, 2) := by decide +kernel
theorem dX8_init_41 : decode cX8_init 41 = .ok (.putfield 27, 3) := by decide +kernel
theorem dX8_init_44 : decode cX8_init 44 = .ok (.return_, 1) := by decide +kernel
theorem dX8_at_0 : decode cX8_at 0 = .ok (.iconst 3, 1) := by decide +kernel
theorem dX8_at_1 : decode cX8_at 1 = .ok (.iload_n 0, 1) := by decide +kernel
theorem dX8_at_2 : decode cX8_at 2 = .ok (.imul, 1) := by decide +kernel
theorem dX8_at_3 : decode cX8_at 3 = .ok (.iload_n 1, 1) := by decide +kernel
theorem dX8_at_4 : decode cX8_at 4 = .ok (.iadd, 1) := by decide +kernel
theorem dX8_at_5 : decode cX8_at 5 = .ok (.ireturn, 1) := by decide +kernel
theorem dX8_become_0 : decode cX8_become 0 = .ok (.aload_n 1, 1) := by decide +kernel
theorem dX8_become_1 : decode cX8_become 1 = .ok (.getfield 9, 3) := by decide +kernel
theorem dX8_become_4 : decode cX8_become 4 = .ok (.iconst 0, 1) := by decide +kernel
theorem dX8_become_5 : decode cX8_become 5 = .ok (.aload_n 0, 1) := by decide +kernel
theorem dX8_become_6 : decode cX8_become 6 = .ok (.getfield 9, 3) := by decide +kernel
theorem dX8_become_9 : decode cX8_become 9 = .ok (.iconst 0, 1) := by decide +kernel
theorem dX8_become_10 : decode cX8_become 10 = .ok (.aload_n 0, 1) := by decide +kernel
theorem dX8_become_11 : decode cX8_become 11 = .ok (.getfield 9, 3) := by decide +kernel
theorem dX8_become_14 : decode cX8_become 14 = .ok (.arraylength, 1) := by decide +kernel
theorem dX8_become_15 : decode cX8_become 15 = .ok (.invokestatic 30, 3) := by decide +kernel
theorem dX8_become_18 : decode cX8_become 18 = .ok (.aload_n 1, 1) := by decide +kernel
theorem dX8_become_19 : decode cX8_become 19 = .ok (.getfield 15, 3) := by decide +kernel
theorem dX8_become_22 : decode cX8_become 22 = .ok (.iconst 0, 1) := by decide +kernel
theorem dX8_become_23 : decode cX8_become 23 = .ok (.aload_n 0, 1) := by decide +kernel
theorem dX8_become_24 : decode cX8_become 24 = .ok (.getfield 15, 3) := by decide +kernel
theorem dX8_become_27 : decode cX8_become 27 = .ok (.iconst 0, 1) := by decide +kernel
theorem dX8_become_28 : decode cX8_become 28 = .ok (.aload_n 0, 1) := by decide +kernel
theorem dX8_become_29 : decode cX8_become 29 = .ok (.getfield 15, 3) := by decide +kernel
theorem dX8_become_32 : decode cX8_become 32 = .ok (.arraylength, 1) := by decide +kernel
theorem dX8_become_33 : decode cX8_become 33 = .ok (.invokestatic 30, 3) := by decide +kernel
theorem dX8_become_36 : decode cX8_become 36 = .ok (.aload_n 1, 1) := by decide +kernel
theorem dX8_become_37 : decode cX8_become 37 = .ok (.getfield 18, 3) := by decide +kernel
theorem dX8_become_40 : decode cX8_become 40 = .ok (.iconst 0, 1) := by decide +kernel
theorem dX8_become_41 : decode cX8_become 41 = .ok (.aload_n 0, 1) := by decide +kernel
theorem dX8_become_42 : decode cX8_become 42 = .ok (.getfield 18, 3) := by decide +kernel
theorem dX8_become_45 : decode cX8_become 45 = .ok (.iconst 0, 1) := by decide +kernel
theorem dX8_become_46 : decode cX8_become 46 = .ok (.aload_n 0, 1) := by decide +kernel
theorem dX8_become_47 : decode cX8_become 47 = .ok (.getfield 18, 3) := by decide +kernel
theorem dX8_become_50 : decode cX8_become 50 = .ok (.arraylength, 1) := by decide +kernel
theorem dX8_become_51 : decode cX8_become 51 = .ok (.invokestatic 30, 3) := by decide +kernel
theorem dX8_become_54 : decode cX8_become 54 = .ok (.aload_n 1, 1) := by decide +kernel
theorem dX8_become_55 : decode cX8_become 55 = .ok (.getfield 27, 3) := by decide +kernel
theorem dX8_become_58 : decode cX8_become 58 = .ok (.iconst 0, 1) := by decide +kernel
theorem dX8_become_59 : decode cX8_become 59 = .ok (.aload_n 0, 1) := by decide +kernel
theorem dX8_become_60 : decode cX8_become 60 = .ok (.getfield 27, 3) := by decide +kernel
theorem dX8_become_63 : decode cX8_become 63 = .ok (.iconst 0, 1) := by decide +kernel
theorem dX8_become_64 : decode cX8_become 64 = .ok (.bipush 6, 2) := by decide +kernel
theorem dX8_become_66 : decode cX8_become 66 = .ok (.aload_n 1, 1) := by decide +kernel
theorem dX8_become_67 : decode cX8_become 67 = .ok (.getfield 36, 3) := by decide +kernel
theorem dX8_become_70 : decode cX8_become 70 = .ok (.imul, 1) := by decide +kernel
theorem dX8_become_71 : decode cX8_become 71 = .ok (.invokestatic 30, 3) := by decide +kernel
theorem dX8_become_74 : decode cX8_become 74 = .ok (.iconst 0, 1) := by decide +kernel
theorem dX8_become_75 : decode cX8_become 75 = .ok (.istore_n 2, 1) := by decide +kernel
theorem dX8_become_76 : decode cX8_become 76 = .ok (.iload_n 2, 1) := by decide +kernel
theorem dX8_become_77 : decode cX8_become 77 = .ok (.iconst 5, 1) := by decide +kernel
theorem dX8_become_78 : decode cX8_become 78 = .ok (.if_icmp .ge 21, 3) := by decide +kernel
theorem dX8_become_81 : decode cX8_become 81 = .ok (.aload_n 0, 1) := by decide +kernel
theorem dX8_become_82 : decode cX8_become 82 = .ok (.getfield 23, 3) := by decide +kernel
theorem dX8_become_85 : decode cX8_become 85 = .ok (.iload_n 2, 1) := by decide +kernel
theorem dX8_become_86 : decode cX8_become 86 = .ok (.aload_n 1, 1) := by decide +kernel
theorem dX8_become_87 : decode cX8_become 87 = .ok (.getfield 23, 3) := by decide +kernel
theorem dX8_become_90 : decode cX8_become 90 = .ok (.iload_n 2, 1) := by decide +kernel
theorem dX8_become_91 : decode cX8_become 91 = .ok (.aaload, 1) := by decide +kernel
theorem dX8_become_92 : decode cX8_become 92 = .ok (.aastore, 1) := by decide +kernel
theorem dX8_become_93 : decode cX8_become 93 = .ok (.iinc 2 1, 3) := by decide +kernel
theorem dX8_become_96 : decode cX8_become 96 = .ok (.goto (-20), 3) := by decide +kernel
theorem dX8_become_99 : decode cX8_become 99 = .ok (.aload_n 0, 1) := by decide +kernel
theorem dX8_become_100 : decode cX8_become 100 = .ok (.aload_n 1, 1) := by decide +kernel
theorem dX8_become_101 : decode cX8_become 101 = .ok (.getfield 40, 3) := by decide +kernel
theorem dX8_become_104 : decode cX8_become 104 = .ok (.putfield 40, 3) := by decide +kernel
theorem dX8_become_107 : decode cX8_become 107 = .ok (.aload_n 0, 1) := by decide +kernel
theorem dX8_become_108 : decode cX8_become 108 = .ok (.aload_n 1, 1) := by decide +kernel
theorem dX8_become_109 : decode cX8_become 109 = .ok (.getfield 44, 3) := by decide +kernel
theorem dX8_become_112 : decode cX8_become 112 = .ok (.putfield 44, 3) := by decide +kernel
theorem dX8_become_115 : decode cX8_become 115 = .ok (.aload_n 0, 1) := by decide +kernel
theorem dX8_become_116 : decode cX8_become 116 = .ok (.aload_n 1, 1) := by decide +kernel
theorem dX8_become_117 : decode cX8_become 117 = .ok (.getfield 47, 3) := by decide +kernel
theorem dX8_become_120 : decode cX8_become 120 = .ok (.putfield 47, 3) := by decide +kernel
theorem dX8_become_123 : decode cX8_become 123 = .ok (.aload_n 0, 1) := by decide +kernel
theorem dX8_become_124 : decode cX8_become 124 = .ok (.aload_n 1, 1) := by decide +kernel
theorem dX8_become_125 : decode cX8_become 125 = .ok (.getfield 50, 3) := by decide +kernel
theorem dX8_become_128 : decode cX8_become 128 = .ok (.putfield 50, 3) := by decide +kernel
theorem dX8_become_131 : decode cX8_become 131 = .ok (.aload_n 0, 1) := by decide +kernel
theorem dX8_become_132 : decode cX8_become 132 = .ok (.aload_n 1, 1) := by decide +kernel
theorem dX8_become_133 : decode cX8_become 133 = .ok (.getfield 36, 3) := by decide +kernel
theorem dX8_become_136 : decode cX8_become 136 = .ok (.putfield 36, 3) := by decide +kernel
theorem dX8_become_139 : decode cX8_become 139 = .ok (.return_, 1) := by decide +kernel
theorem dX8_empty_0 : decode cX8_empty 0 = .ok (.aload_n 0, 1) := by decide +kernel
theorem dX8_empty_1 : decode cX8_empty 1 = .ok (.iconst 1, 1) := by decide +kernel
theorem dX8_empty_2 : decode cX8_empty 2 = .ok (.putfield 40, 3) := by decide +kernel
theorem dX8_empty_5 : decode cX8_empty 5 = .ok (.aload_n 0, 1) := by decide +kernel
theorem dX8_empty_6 : decode cX8_empty 6 = .ok (.iconst 0, 1) := by decide +kernel
theorem dX8_empty_7 : decode cX8_empty 7 = .ok (.putfield 47, 3) := by decide +kernel
theorem dX8_empty_10 : decode cX8_empty 10 = .ok (.aload_n 0, 1) := by decide +kernel
theorem dX8_empty_11 : decode cX8_empty 11 = .ok (.iconst 0, 1) := by decide +kernel
theorem dX8_empty_12 : decode cX8_empty 12 = .ok (.putfield 50, 3) := by decide +kernel
theorem dX8_empty_15 : decode cX8_empty 15 = .ok (.aload_n 0, 1) := by decide +kernel
theorem dX8_empty_16 : decode cX8_empty 16 = .ok (.iconst 0, 1) := by decide +kernel
theorem dX8_empty_17 : decode cX8_empty 17 = .ok (.putfield 36, 3) := by decide +kernel
theorem dX8_empty_20 : decode cX8_empty 20 = .ok (.return_, 1) := by decide +kernel
theorem dX8_make_0 : decode cX8_make 0 = .ok (.aload_n 0, 1) := by decide +kernel
theorem dX8_make_1 : decode cX8_make 1 = .ok (.getfield 9, 3) := by decide +kernel
theorem dX8_make_4 : decode cX8_make 4 = .ok (.iload_n 1, 1) := by decide +kernel
theorem dX8_make_5 : decode cX8_make 5 = .ok (.iload_n 2, 1) := by decide +kernel
theorem dX8_make_6 : decode cX8_make 6 = .ok (.iastore, 1) := by decide +kernel
theorem dX8_make_7 : decode cX8_make 7 = .ok (.aload_n 0, 1) := by decide +kernel
theorem dX8_make_8 : decode cX8_make 8 = .ok (.getfield 15, 3) := by decide +kernel
theorem dX8_make_11 : decode cX8_make 11 = .ok (.iload_n 1, 1) := by decide +kernel
theorem dX8_make_12 : decode cX8_make 12 = .ok (.iload_n 2, 1) := by decide +kernel
theorem dX8_make_13 : decode cX8_make 13 = .ok (.iastore, 1) := by decide +kernel
theorem dX8_make_14 : decode cX8_make 14 = .ok (.aload_n 0, 1) := by decide +kernel
theorem dX8_make_15 : decode cX8_make 15 = .ok (.getfield 18, 3) := by decide +kernel
theorem dX8_make_18 : decode cX8_make 18 = .ok (.iload_n 1, 1) := by decide +kernel
theorem dX8_make_19 : decode cX8_make 19 = .ok (.iload_n 2, 1) := by decide +kernel
theorem dX8_make_20 : decode cX8_make 20 = .ok (.iastore, 1) := by decide +kernel
theorem dX8_make_21 : decode cX8_make 21 = .ok (.return_, 1) := by decide +kernel
theorem dX8_addMouth_0 : decode cX8_addMouth 0 = .ok (.aload_n 0, 1) := by decide +kernel
theorem dX8_addMouth_1 : decode cX8_addMouth 1 = .ok (.getfield 23, 3) := by decide +kernel
theorem dX8_addMouth_4 : decode cX8_addMouth 4 = .ok (.aload_n 0, 1) := by decide +kernel
theorem dX8_addMouth_5 : decode cX8_addMouth 5 = .ok (.getfield 50, 3) := by decide +kernel
theorem dX8_addMouth_8 : decode cX8_addMouth 8 = .ok (.iload_n 1, 1) := by decide +kernel
theorem dX8_addMouth_9 : decode cX8_addMouth 9 = .ok (.aload_n 0, 1) := by decide +kernel
theorem dX8_addMouth_10 : decode cX8_addMouth 10 = .ok (.getfield 50, 3) := by decide +kernel
theorem dX8_addMouth_13 : decode cX8_addMouth 13 = .ok (.iload_n 2, 1) := by decide +kernel
theorem dX8_addMouth_14 : decode cX8_addMouth 14 = .ok (.invokestatic 53, 3) := by decide +kernel
theorem dX8_addMouth_17 : decode cX8_addMouth 17 = .ok (.aastore, 1) := by decide +kernel
theorem dX8_addMouth_18 : decode cX8_addMouth 18 = .ok (.aload_n 0, 1) := by decide +kernel
theorem dX8_addMouth_19 : decode cX8_addMouth 19 = .ok (.dup, 1) := by decide +kernel
theorem dX8_addMouth_20 : decode cX8_addMouth 20 = .ok (.getfield 50, 3) := by decide +kernel
theorem dX8_addMouth_23 : decode cX8_addMouth 23 = .ok (.iconst 1, 1) := by decide +kernel
theorem dX8_addMouth_24 : decode cX8_addMouth 24 = .ok (.iadd, 1) := by decide +kernel
theorem dX8_addMouth_25 : decode cX8_addMouth 25 = .ok (.putfield 50, 3) := by decide +kernel
theorem dX8_addMouth_28 : decode cX8_addMouth 28 = .ok (.return_, 1) := by decide +kernel
theorem dX8_newMouth_0 : decode cX8_newMouth 0 = .ok (.iload_n 0, 1) := by decide +kernel
theorem dX8_newMouth_1 : decode cX8_newMouth 1 = .ok (.tableswitch 71 2 5 #[31, 41, 51, 61], 31) := by decide +kernel
theorem dX8_newMouth_32 : decode cX8_newMouth 32 = .ok (.new 57, 3) := by decide +kernel
theorem dX8_newMouth_35 : decode cX8_newMouth 35 = .ok (.dup, 1) := by decide +kernel
theorem dX8_newMouth_36 : decode cX8_newMouth 36 = .ok (.iload_n 1, 1) := by decide +kernel
theorem dX8_newMouth_37 : decode cX8_newMouth 37 = .ok (.iload_n 2, 1) := by decide +kernel
theorem dX8_newMouth_38 : decode cX8_newMouth 38 = .ok (.invokespecial 59, 3) := by decide +kernel
theorem dX8_newMouth_41 : decode cX8_newMouth 41 = .ok (.areturn, 1) := by decide +kernel
theorem dX8_newMouth_42 : decode cX8_newMouth 42 = .ok (.new 62, 3) := by decide +kernel
theorem dX8_newMouth_45 : decode cX8_newMouth 45 = .ok (.dup, 1) := by decide +kernel
theorem dX8_newMouth_46 : decode cX8_newMouth 46 = .ok (.iload_n 1, 1) := by decide +kernel
theorem dX8_newMouth_47 : decode cX8_newMouth 47 = .ok (.iload_n 2, 1) := by decide +kernel
theorem dX8_newMouth_48 : decode cX8_newMouth 48 = .ok (.invokespecial 64, 3) := by decide +kernel
theorem dX8_newMouth_51 : decode cX8_newMouth 51 = .ok (.areturn, 1) := by decide +kernel
theorem dX8_newMouth_52 : decode cX8_newMouth 52 = .ok (.new 65, 3) := by decide +kernel
theorem dX8_newMouth_55 : decode cX8_newMouth 55 = .ok (.dup, 1) := by decide +kernel
theorem dX8_newMouth_56 : decode cX8_newMouth 56 = .ok (.iload_n 1, 1) := by decide +kernel
theorem dX8_newMouth_57 : decode cX8_newMouth 57 = .ok (.iload_n 2, 1) := by decide +kernel
theorem dX8_newMouth_58 : decode cX8_newMouth 58 = .ok (.invokespecial 67, 3) := by decide +kernel
theorem dX8_newMouth_61 : decode cX8_newMouth 61 = .ok (.areturn, 1) := by decide +kernel
theorem dX8_newMouth_62 : decode cX8_newMouth 62 = .ok (.new 68, 3) := by decide +kernel
theorem dX8_newMouth_65 : decode cX8_newMouth 65 = .ok (.dup, 1) := by decide +kernel
theorem dX8_newMouth_66 : decode cX8_newMouth 66 = .ok (.iload_n 1, 1) := by decide +kernel
theorem dX8_newMouth_67 : decode cX8_newMouth 67 = .ok (.iload_n 2, 1) := by decide +kernel
theorem dX8_newMouth_68 : decode cX8_newMouth 68 = .ok (.invokespecial 70, 3) := by decide +kernel
theorem dX8_newMouth_71 : decode cX8_newMouth 71 = .ok (.areturn, 1) := by decide +kernel
theorem dX8_newMouth_72 : decode cX8_newMouth 72 = .ok (.new 71, 3) := by decide +kernel
theorem dX8_newMouth_75 : decode cX8_newMouth 75 = .ok (.dup, 1) := by decide +kernel
theorem dX8_newMouth_76 : decode cX8_newMouth 76 = .ok (.iload_n 1, 1) := by decide +kernel
theorem dX8_newMouth_77 : decode cX8_newMouth 77 = .ok (.iload_n 2, 1) := by decide +kernel
theorem dX8_newMouth_78 : decode cX8_newMouth 78 = .ok (.invokespecial 73, 3) := by decide +kernel
theorem dX8_newMouth_81 : decode cX8_newMouth 81 = .ok (.areturn, 1) := by decide +kernel
theorem dX8_mouthAt_0 : decode cX8_mouthAt 0 = .ok (.iload_n 1, 1) := by decide +kernel
theorem dX8_mouthAt_1 : decode cX8_mouthAt 1 = .ok (.ifCond .lt 20, 3) := by decide +kernel
theorem dX8_mouthAt_4 : decode cX8_mouthAt 4 = .ok (.iload_n 1, 1) := by decide +kernel
theorem dX8_mouthAt_5 : decode cX8_mouthAt 5 = .ok (.aload_n 0, 1) := by decide +kernel
theorem dX8_mouthAt_6 : decode cX8_mouthAt 6 = .ok (.getfield 50, 3) := by decide +kernel
theorem dX8_mouthAt_9 : decode cX8_mouthAt 9 = .ok (.if_icmp .ge 12, 3) := by decide +kernel
theorem dX8_mouthAt_12 : decode cX8_mouthAt 12 = .ok (.aload_n 0, 1) := by decide +kernel
theorem dX8_mouthAt_13 : decode cX8_mouthAt 13 = .ok (.getfield 23, 3) := by decide +kernel
theorem dX8_mouthAt_16 : decode cX8_mouthAt 16 = .ok (.iload_n 1, 1) := by decide +kernel
theorem dX8_mouthAt_17 : decode cX8_mouthAt 17 = .ok (.aaload, 1) := by decide +kernel
theorem dX8_mouthAt_18 : decode cX8_mouthAt 18 = .ok (.goto 4, 3) := by decide +kernel
theorem dX8_mouthAt_21 : decode cX8_mouthAt 21 = .ok (.aconst_null, 1) := by decide +kernel
theorem dX8_mouthAt_22 : decode cX8_mouthAt 22 = .ok (.areturn, 1) := by decide +kernel
theorem dX8_hasDummy_0 : decode cX8_hasDummy 0 = .ok (.iload_n 1, 1) := by decide +kernel
theorem dX8_hasDummy_1 : decode cX8_hasDummy 1 = .ok (.ifCond .lt 15, 3) := by decide +kernel
theorem dX8_hasDummy_4 : decode cX8_hasDummy 4 = .ok (.iload_n 1, 1) := by decide +kernel
theorem dX8_hasDummy_5 : decode cX8_hasDummy 5 = .ok (.aload_n 0, 1) := by decide +kernel
theorem dX8_hasDummy_6 : decode cX8_hasDummy 6 = .ok (.getfield 47, 3) := by decide +kernel
theorem dX8_hasDummy_9 : decode cX8_hasDummy 9 = .ok (.if_icmp .ge 7, 3) := by decide +kernel
theorem dX8_hasDummy_12 : decode cX8_hasDummy 12 = .ok (.iconst 1, 1) := by decide +kernel
theorem dX8_hasDummy_13 : decode cX8_hasDummy 13 = .ok (.goto 4, 3) := by decide +kernel
theorem dX8_hasDummy_16 : decode cX8_hasDummy 16 = .ok (.iconst 0, 1) := by decide +kernel
theorem dX8_hasDummy_17 : decode cX8_hasDummy 17 = .ok (.ireturn, 1) := by decide +kernel
theorem dX8_hasPlace_0 : decode cX8_hasPlace 0 = .ok (.aload_n 0, 1) := by decide +kernel
theorem dX8_hasPlace_1 : decode cX8_hasPlace 1 = .ok (.iload_n 1, 1) := by decide +kernel
theorem dX8_hasPlace_2 : decode cX8_hasPlace 2 = .ok (.invokevirtual 74, 3) := by decide +kernel
theorem dX8_hasPlace_5 : decode cX8_hasPlace 5 = .ok (.ifCond .eq 16, 3) := by decide +kernel
theorem dX8_hasPlace_8 : decode cX8_hasPlace 8 = .ok (.iload_n 2, 1) := by decide +kernel
theorem dX8_hasPlace_9 : decode cX8_hasPlace 9 = .ok (.ifCond .lt 12, 3) := by decide +kernel
theorem dX8_hasPlace_12 : decode cX8_hasPlace 12 = .ok (.iload_n 2, 1) := by decide +kernel
theorem dX8_hasPlace_13 : decode cX8_hasPlace 13 = .ok (.iconst 3, 1) := by decide +kernel
theorem dX8_hasPlace_14 : decode cX8_hasPlace 14 = .ok (.if_icmp .ge 7, 3) := by decide +kernel
theorem dX8_hasPlace_17 : decode cX8_hasPlace 17 = .ok (.iconst 1, 1) := by decide +kernel
theorem dX8_hasPlace_18 : decode cX8_hasPlace 18 = .ok (.goto 4, 3) := by decide +kernel
theorem dX8_hasPlace_21 : decode cX8_hasPlace 21 = .ok (.iconst 0, 1) := by decide +kernel
theorem dX8_hasPlace_22 : decode cX8_hasPlace 22 = .ok (.ireturn, 1) := by decide +kernel
theorem dX8_isLogFull_0 : decode cX8_isLogFull 0 = .ok (.aload_n 0, 1) := by decide +kernel
theorem dX8_isLogFull_1 : decode cX8_isLogFull 1 = .ok (.getfield 36, 3) := by decide +kernel
theorem dX8_isLogFull_4 : decode cX8_isLogFull 4 = .ok (.bipush 16, 2) := by decide +kernel
theorem dX8_isLogFull_6 : decode cX8_isLogFull 6 = .ok (.if_icmp .lt 7, 3) := by decide +kernel
theorem dX8_isLogFull_9 : decode cX8_isLogFull 9 = .ok (.iconst 1, 1) := by decide +kernel
theorem dX8_isLogFull_10 : decode cX8_isLogFull 10 = .ok (.goto 4, 3) := by decide +kernel
theorem dX8_isLogFull_13 : decode cX8_isLogFull 13 = .ok (.iconst 0, 1) := by decide +kernel
theorem dX8_isLogFull_14 : decode cX8_isLogFull 14 = .ok (.ireturn, 1) := by decide +kernel
theorem dX8_hasRoomFor_0 : decode cX8_hasRoomFor 0 = .ok (.iload_n 1, 1) := by decide +kernel
theorem dX8_hasRoomFor_1 : decode cX8_hasRoomFor 1 = .ok (.iload_n 2, 1) := by decide +kernel
theorem dX8_hasRoomFor_2 : decode cX8_hasRoomFor 2 = .ok (.invokestatic 78, 3) := by decide +kernel
theorem dX8_hasRoomFor_5 : decode cX8_hasRoomFor 5 = .ok (.istore 5, 2) := by decide +kernel
theorem dX8_hasRoomFor_7 : decode cX8_hasRoomFor 7 = .ok (.aload_n 0, 1) := by decide +kernel
theorem dX8_hasRoomFor_8 : decode cX8_hasRoomFor 8 = .ok (.getfield 9, 3) := by decide +kernel
theorem dX8_hasRoomFor_11 : decode cX8_hasRoomFor 11 = .ok (.iload 5, 2) := by decide +kernel
theorem dX8_hasRoomFor_13 : decode cX8_hasRoomFor 13 = .ok (.iaload, 1) := by decide +kernel
theorem dX8_hasRoomFor_14 : decode cX8_hasRoomFor 14 = .ok (.iload_n 3, 1) := by decide +kernel
theorem dX8_hasRoomFor_15 : decode cX8_hasRoomFor 15 = .ok (.iadd, 1) := by decide +kernel
theorem dX8_hasRoomFor_16 : decode cX8_hasRoomFor 16 = .ok (.invokestatic 82, 3) := by decide +kernel
theorem dX8_hasRoomFor_19 : decode cX8_hasRoomFor 19 = .ok (.sipush 999, 3) := by decide +kernel
theorem dX8_hasRoomFor_22 : decode cX8_hasRoomFor 22 = .ok (.if_icmp .gt 26, 3) := by decide +kernel
theorem dX8_hasRoomFor_25 : decode cX8_hasRoomFor 25 = .ok (.aload_n 0, 1) := by decide +kernel
theorem dX8_hasRoomFor_26 : decode cX8_hasRoomFor 26 = .ok (.getfield 18, 3) := by decide +kernel
theorem dX8_hasRoomFor_29 : decode cX8_hasRoomFor 29 = .ok (.iload 5, 2) := by decide +kernel
theorem dX8_hasRoomFor_31 : decode cX8_hasRoomFor 31 = .ok (.iaload, 1) := by decide +kernel
theorem dX8_hasRoomFor_32 : decode cX8_hasRoomFor 32 = .ok (.iload 4, 2) := by decide +kernel
theorem dX8_hasRoomFor_34 : decode cX8_hasRoomFor 34 = .ok (.iadd, 1) := by decide +kernel
theorem dX8_hasRoomFor_35 : decode cX8_hasRoomFor 35 = .ok (.invokestatic 82, 3) := by decide +kernel
theorem dX8_hasRoomFor_38 : decode cX8_hasRoomFor 38 = .ok (.sipush 999, 3) := by decide +kernel
theorem dX8_hasRoomFor_41 : decode cX8_hasRoomFor 41 = .ok (.if_icmp .gt 7, 3) := by decide +kernel
theorem dX8_hasRoomFor_44 : decode cX8_hasRoomFor 44 = .ok (.iconst 1, 1) := by decide +kernel
theorem dX8_hasRoomFor_45 : decode cX8_hasRoomFor 45 = .ok (.goto 4, 3) := by decide +kernel
theorem dX8_hasRoomFor_48 : decode cX8_hasRoomFor 48 = .ok (.iconst 0, 1) := by decide +kernel
theorem dX8_hasRoomFor_49 : decode cX8_hasRoomFor 49 = .ok (.ireturn, 1) := by decide +kernel
theorem dX8_pinch_0 : decode cX8_pinch 0 = .ok (.aload_n 0, 1) := by decide +kernel
theorem dX8_pinch_1 : decode cX8_pinch 1 = .ok (.getfield 18, 3) := by decide +kernel
theorem dX8_pinch_4 : decode cX8_pinch 4 = .ok (.iload_n 1, 1) := by decide +kernel
theorem dX8_pinch_5 : decode cX8_pinch 5 = .ok (.iaload, 1) := by decide +kernel
theorem dX8_pinch_6 : decode cX8_pinch 6 = .ok (.aload_n 0, 1) := by decide +kernel
theorem dX8_pinch_7 : decode cX8_pinch 7 = .ok (.getfield 9, 3) := by decide +kernel
theorem dX8_pinch_10 : decode cX8_pinch 10 = .ok (.iload_n 1, 1) := by decide +kernel
theorem dX8_pinch_11 : decode cX8_pinch 11 = .ok (.iaload, 1) := by decide +kernel
theorem dX8_pinch_12 : decode cX8_pinch 12 = .ok (.isub, 1) := by decide +kernel
theorem dX8_pinch_13 : decode cX8_pinch 13 = .ok (.ireturn, 1) := by decide +kernel
theorem dX8_addTelling_0 : decode cX8_addTelling 0 = .ok (.aload_n 0, 1) := by decide +kernel
theorem dX8_addTelling_1 : decode cX8_addTelling 1 = .ok (.iconst 0, 1) := by decide +kernel
theorem dX8_addTelling_2 : decode cX8_addTelling 2 = .ok (.iload_n 1, 1) := by decide +kernel
theorem dX8_addTelling_3 : decode cX8_addTelling 3 = .ok (.iload_n 2, 1) := by decide +kernel
theorem dX8_addTelling_4 : decode cX8_addTelling 4 = .ok (.iload_n 3, 1) := by decide +kernel
theorem dX8_addTelling_5 : decode cX8_addTelling 5 = .ok (.iload 4, 2) := by decide +kernel
theorem dX8_addTelling_7 : decode cX8_addTelling 7 = .ok (.iload 5, 2) := by decide +kernel
theorem dX8_addTelling_9 : decode cX8_addTelling 9 = .ok (.invokevirtual 88, 3) := by decide +kernel
theorem dX8_addTelling_12 : decode cX8_addTelling 12 = .ok (.aload_n 0, 1) := by decide +kernel
theorem dX8_addTelling_13 : decode cX8_addTelling 13 = .ok (.getfield 9, 3) := by decide +kernel
theorem dX8_addTelling_16 : decode cX8_addTelling 16 = .ok (.iload_n 2, 1) := by decide +kernel
theorem dX8_addTelling_17 : decode cX8_addTelling 17 = .ok (.iload_n 3, 1) := by decide +kernel
theorem dX8_addTelling_18 : decode cX8_addTelling 18 = .ok (.invokestatic 78, 3) := by decide +kernel
theorem dX8_addTelling_21 : decode cX8_addTelling 21 = .ok (.dup2, 1) := by decide +kernel
theorem dX8_addTelling_22 : decode cX8_addTelling 22 = .ok (.iaload, 1) := by decide +kernel
theorem dX8_addTelling_23 : decode cX8_addTelling 23 = .ok (.iload 5, 2) := by decide +kernel
theorem dX8_addTelling_25 : decode cX8_addTelling 25 = .ok (.iadd, 1) := by decide +kernel
theorem dX8_addTelling_26 : decode cX8_addTelling 26 = .ok (.iastore, 1) := by decide +kernel
theorem dX8_addTelling_27 : decode cX8_addTelling 27 = .ok (.aload_n 0, 1) := by decide +kernel
theorem dX8_addTelling_28 : decode cX8_addTelling 28 = .ok (.getfield 18, 3) := by decide +kernel
theorem dX8_addTelling_31 : decode cX8_addTelling 31 = .ok (.iload_n 2, 1) := by decide +kernel
theorem dX8_addTelling_32 : decode cX8_addTelling 32 = .ok (.iload_n 3, 1) := by decide +kernel
theorem dX8_addTelling_33 : decode cX8_addTelling 33 = .ok (.invokestatic 78, 3) := by decide +kernel
theorem dX8_addTelling_36 : decode cX8_addTelling 36 = .ok (.dup2, 1) := by decide +kernel
theorem dX8_addTelling_37 : decode cX8_addTelling 37 = .ok (.iaload, 1) := by decide +kernel
theorem dX8_addTelling_38 : decode cX8_addTelling 38 = .ok (.iload 4, 2) := by decide +kernel
theorem dX8_addTelling_40 : decode cX8_addTelling 40 = .ok (.iadd, 1) := by decide +kernel
theorem dX8_addTelling_41 : decode cX8_addTelling 41 = .ok (.iastore, 1) := by decide +kernel
theorem dX8_addTelling_42 : decode cX8_addTelling 42 = .ok (.return_, 1) := by decide +kernel
theorem dX8_addYear_0 : decode cX8_addYear 0 = .ok (.aload_n 0, 1) := by decide +kernel
theorem dX8_addYear_1 : decode cX8_addYear 1 = .ok (.iconst 1, 1) := by decide +kernel
theorem dX8_addYear_2 : decode cX8_addYear 2 = .ok (.ldc 92, 2) := by decide +kernel
theorem dX8_addYear_4 : decode cX8_addYear 4 = .ok (.ldc 92, 2) := by decide +kernel
theorem dX8_addYear_6 : decode cX8_addYear 6 = .ok (.ldc 92, 2) := by decide +kernel
theorem dX8_addYear_8 : decode cX8_addYear 8 = .ok (.iconst 0, 1) := by decide +kernel
theorem dX8_addYear_9 : decode cX8_addYear 9 = .ok (.iconst 0, 1) := by decide +kernel
theorem dX8_addYear_10 : decode cX8_addYear 10 = .ok (.invokevirtual 88, 3) := by decide +kernel
theorem dX8_addYear_13 : decode cX8_addYear 13 = .ok (.aload_n 0, 1) := by decide +kernel
theorem dX8_addYear_14 : decode cX8_addYear 14 = .ok (.invokevirtual 93, 3) := by decide +kernel
theorem dX8_addYear_17 : decode cX8_addYear 17 = .ok (.ireturn, 1) := by decide +kernel
theorem dX8_addSwap_0 : decode cX8_addSwap 0 = .ok (.aload_n 0, 1) := by decide +kernel
theorem dX8_addSwap_1 : decode cX8_addSwap 1 = .ok (.iconst 2, 1) := by decide +kernel
theorem dX8_addSwap_2 : decode cX8_addSwap 2 = .ok (.iload_n 1, 1) := by decide +kernel
theorem dX8_addSwap_3 : decode cX8_addSwap 3 = .ok (.iload_n 2, 1) := by decide +kernel
theorem dX8_addSwap_4 : decode cX8_addSwap 4 = .ok (.ldc 92, 2) := by decide +kernel
theorem dX8_addSwap_6 : decode cX8_addSwap 6 = .ok (.iconst 0, 1) := by decide +kernel
theorem dX8_addSwap_7 : decode cX8_addSwap 7 = .ok (.iconst 0, 1) := by decide +kernel
theorem dX8_addSwap_8 : decode cX8_addSwap 8 = .ok (.invokevirtual 88, 3) := by decide +kernel
theorem dX8_addSwap_11 : decode cX8_addSwap 11 = .ok (.aload_n 0, 1) := by decide +kernel
theorem dX8_addSwap_12 : decode cX8_addSwap 12 = .ok (.iload_n 1, 1) := by decide +kernel
theorem dX8_addSwap_13 : decode cX8_addSwap 13 = .ok (.iload_n 2, 1) := by decide +kernel
theorem dX8_addSwap_14 : decode cX8_addSwap 14 = .ok (.invokevirtual 97, 3) := by decide +kernel
theorem dX8_addSwap_17 : decode cX8_addSwap 17 = .ok (.return_, 1) := by decide +kernel
theorem dX8_addLine_0 : decode cX8_addLine 0 = .ok (.bipush 6, 2) := by decide +kernel
theorem dX8_addLine_2 : decode cX8_addLine 2 = .ok (.aload_n 0, 1) := by decide +kernel
theorem dX8_addLine_3 : decode cX8_addLine 3 = .ok (.getfield 36, 3) := by decide +kernel
theorem dX8_addLine_6 : decode cX8_addLine 6 = .ok (.imul, 1) := by decide +kernel
theorem dX8_addLine_7 : decode cX8_addLine 7 = .ok (.istore 7, 2) := by decide +kernel
theorem dX8_addLine_9 : decode cX8_addLine 9 = .ok (.aload_n 0, 1) := by decide +kernel
theorem dX8_addLine_10 : decode cX8_addLine 10 = .ok (.getfield 27, 3) := by decide +kernel
theorem dX8_addLine_13 : decode cX8_addLine 13 = .ok (.iload 7, 2) := by decide +kernel
theorem dX8_addLine_15 : decode cX8_addLine 15 = .ok (.iload_n 1, 1) := by decide +kernel
theorem dX8_addLine_16 : decode cX8_addLine 16 = .ok (.iastore, 1) := by decide +kernel
theorem dX8_addLine_17 : decode cX8_addLine 17 = .ok (.aload_n 0, 1) := by decide +kernel
theorem dX8_addLine_18 : decode cX8_addLine 18 = .ok (.getfield 27, 3) := by decide +kernel
theorem dX8_addLine_21 : decode cX8_addLine 21 = .ok (.iload 7, 2) := by decide +kernel
theorem dX8_addLine_23 : decode cX8_addLine 23 = .ok (.iconst 1, 1) := by decide +kernel
theorem dX8_addLine_24 : decode cX8_addLine 24 = .ok (.iadd, 1) := by decide +kernel
theorem dX8_addLine_25 : decode cX8_addLine 25 = .ok (.iload_n 2, 1) := by decide +kernel
theorem dX8_addLine_26 : decode cX8_addLine 26 = .ok (.iastore, 1) := by decide +kernel
theorem dX8_addLine_27 : decode cX8_addLine 27 = .ok (.aload_n 0, 1) := by decide +kernel
theorem dX8_addLine_28 : decode cX8_addLine 28 = .ok (.getfield 27, 3) := by decide +kernel
theorem dX8_addLine_31 : decode cX8_addLine 31 = .ok (.iload 7, 2) := by decide +kernel
theorem dX8_addLine_33 : decode cX8_addLine 33 = .ok (.iconst 2, 1) := by decide +kernel
theorem dX8_addLine_34 : decode cX8_addLine 34 = .ok (.iadd, 1) := by decide +kernel
theorem dX8_addLine_35 : decode cX8_addLine 35 = .ok (.iload_n 3, 1) := by decide +kernel
theorem dX8_addLine_36 : decode cX8_addLine 36 = .ok (.iastore, 1) := by decide +kernel
theorem dX8_addLine_37 : decode cX8_addLine 37 = .ok (.aload_n 0, 1) := by decide +kernel
theorem dX8_addLine_38 : decode cX8_addLine 38 = .ok (.getfield 27, 3) := by decide +kernel
theorem dX8_addLine_41 : decode cX8_addLine 41 = .ok (.iload 7, 2) := by decide +kernel
theorem dX8_addLine_43 : decode cX8_addLine 43 = .ok (.iconst 3, 1) := by decide +kernel
theorem dX8_addLine_44 : decode cX8_addLine 44 = .ok (.iadd, 1) := by decide +kernel
theorem dX8_addLine_45 : decode cX8_addLine 45 = .ok (.iload 4, 2) := by decide +kernel
theorem dX8_addLine_47 : decode cX8_addLine 47 = .ok (.iastore, 1) := by decide +kernel
theorem dX8_addLine_48 : decode cX8_addLine 48 = .ok (.aload_n 0, 1) := by decide +kernel
theorem dX8_addLine_49 : decode cX8_addLine 49 = .ok (.getfield 27, 3) := by decide +kernel
theorem dX8_addLine_52 : decode cX8_addLine 52 = .ok (.iload 7, 2) := by decide +kernel
theorem dX8_addLine_54 : decode cX8_addLine 54 = .ok (.iconst 4, 1) := by decide +kernel
theorem dX8_addLine_55 : decode cX8_addLine 55 = .ok (.iadd, 1) := by decide +kernel
theorem dX8_addLine_56 : decode cX8_addLine 56 = .ok (.iload 5, 2) := by decide +kernel
theorem dX8_addLine_58 : decode cX8_addLine 58 = .ok (.iastore, 1) := by decide +kernel
theorem dX8_addLine_59 : decode cX8_addLine 59 = .ok (.aload_n 0, 1) := by decide +kernel
theorem dX8_addLine_60 : decode cX8_addLine 60 = .ok (.getfield 27, 3) := by decide +kernel
theorem dX8_addLine_63 : decode cX8_addLine 63 = .ok (.iload 7, 2) := by decide +kernel
theorem dX8_addLine_65 : decode cX8_addLine 65 = .ok (.iconst 5, 1) := by decide +kernel
theorem dX8_addLine_66 : decode cX8_addLine 66 = .ok (.iadd, 1) := by decide +kernel
theorem dX8_addLine_67 : decode cX8_addLine 67 = .ok (.iload 6, 2) := by decide +kernel
theorem dX8_addLine_69 : decode cX8_addLine 69 = .ok (.iastore, 1) := by decide +kernel
theorem dX8_addLine_70 : decode cX8_addLine 70 = .ok (.aload_n 0, 1) := by decide +kernel
theorem dX8_addLine_71 : decode cX8_addLine 71 = .ok (.dup, 1) := by decide +kernel
theorem dX8_addLine_72 : decode cX8_addLine 72 = .ok (.getfield 36, 3) := by decide +kernel
theorem dX8_addLine_75 : decode cX8_addLine 75 = .ok (.iconst 1, 1) := by decide +kernel
theorem dX8_addLine_76 : decode cX8_addLine 76 = .ok (.iadd, 1) := by decide +kernel
theorem dX8_addLine_77 : decode cX8_addLine 77 = .ok (.putfield 36, 3) := by decide +kernel
theorem dX8_addLine_80 : decode cX8_addLine 80 = .ok (.return_, 1) := by decide +kernel
theorem dX8_shrinkAll_0 : decode cX8_shrinkAll 0 = .ok (.iconst 0, 1) := by decide +kernel
theorem dX8_shrinkAll_1 : decode cX8_shrinkAll 1 = .ok (.istore_n 1, 1) := by decide +kernel
theorem dX8_shrinkAll_2 : decode cX8_shrinkAll 2 = .ok (.iconst 0, 1) := by decide +kernel
theorem dX8_shrinkAll_3 : decode cX8_shrinkAll 3 = .ok (.istore_n 2, 1) := by decide +kernel
theorem dX8_shrinkAll_4 : decode cX8_shrinkAll 4 = .ok (.iload_n 2, 1) := by decide +kernel
theorem dX8_shrinkAll_5 : decode cX8_shrinkAll 5 = .ok (.iconst 3, 1) := by decide +kernel
theorem dX8_shrinkAll_6 : decode cX8_shrinkAll 6 = .ok (.aload_n 0, 1) := by decide +kernel
theorem dX8_shrinkAll_7 : decode cX8_shrinkAll 7 = .ok (.getfield 47, 3) := by decide +kernel
theorem dX8_shrinkAll_10 : decode cX8_shrinkAll 10 = .ok (.imul, 1) := by decide +kernel
theorem dX8_shrinkAll_11 : decode cX8_shrinkAll 11 = .ok (.if_icmp .ge 62, 3) := by decide +kernel
theorem dX8_shrinkAll_14 : decode cX8_shrinkAll 14 = .ok (.aload_n 0, 1) := by decide +kernel
theorem dX8_shrinkAll_15 : decode cX8_shrinkAll 15 = .ok (.getfield 9, 3) := by decide +kernel
theorem dX8_shrinkAll_18 : decode cX8_shrinkAll 18 = .ok (.iload_n 2, 1) := by decide +kernel
theorem dX8_shrinkAll_19 : decode cX8_shrinkAll 19 = .ok (.iaload, 1) := by decide +kernel
theorem dX8_shrinkAll_20 : decode cX8_shrinkAll 20 = .ok (.aload_n 0, 1) := by decide +kernel
theorem dX8_shrinkAll_21 : decode cX8_shrinkAll 21 = .ok (.getfield 15, 3) := by decide +kernel
theorem dX8_shrinkAll_24 : decode cX8_shrinkAll 24 = .ok (.iload_n 2, 1) := by decide +kernel
theorem dX8_shrinkAll_25 : decode cX8_shrinkAll 25 = .ok (.iaload, 1) := by decide +kernel
theorem dX8_shrinkAll_26 : decode cX8_shrinkAll 26 = .ok (.isub, 1) := by decide +kernel
theorem dX8_shrinkAll_27 : decode cX8_shrinkAll 27 = .ok (.istore_n 3, 1) := by decide +kernel
theorem dX8_shrinkAll_28 : decode cX8_shrinkAll 28 = .ok (.iload_n 3, 1) := by decide +kernel
theorem dX8_shrinkAll_29 : decode cX8_shrinkAll 29 = .ok (.ifCond .le 19, 3) := by decide +kernel
theorem dX8_shrinkAll_32 : decode cX8_shrinkAll 32 = .ok (.aload_n 0, 1) := by decide +kernel
theorem dX8_shrinkAll_33 : decode cX8_shrinkAll 33 = .ok (.getfield 44, 3) := by decide +kernel
theorem dX8_shrinkAll_36 : decode cX8_shrinkAll 36 = .ok (.ifCond .le 12, 3) := by decide +kernel
theorem dX8_shrinkAll_39 : decode cX8_shrinkAll 39 = .ok (.iload_n 3, 1) := by decide +kernel
theorem dX8_shrinkAll_40 : decode cX8_shrinkAll 40 = .ok (.aload_n 0, 1) := by decide +kernel
theorem dX8_shrinkAll_41 : decode cX8_shrinkAll 41 = .ok (.getfield 44, 3) := by decide +kernel
theorem dX8_shrinkAll_44 : decode cX8_shrinkAll 44 = .ok (.idiv, 1) := by decide +kernel
theorem dX8_shrinkAll_45 : decode cX8_shrinkAll 45 = .ok (.goto 4, 3) := by decide +kernel
theorem dX8_shrinkAll_48 : decode cX8_shrinkAll 48 = .ok (.iconst 0, 1) := by decide +kernel
theorem dX8_shrinkAll_49 : decode cX8_shrinkAll 49 = .ok (.istore 4, 2) := by decide +kernel
theorem dX8_shrinkAll_51 : decode cX8_shrinkAll 51 = .ok (.aload_n 0, 1) := by decide +kernel
theorem dX8_shrinkAll_52 : decode cX8_shrinkAll 52 = .ok (.getfield 9, 3) := by decide +kernel
theorem dX8_shrinkAll_55 : decode cX8_shrinkAll 55 = .ok (.iload_n 2, 1) := by decide +kernel
theorem dX8_shrinkAll_56 : decode cX8_shrinkAll 56 = .ok (.dup2, 1) := by decide +kernel
theorem dX8_shrinkAll_57 : decode cX8_shrinkAll 57 = .ok (.iaload, 1) := by decide +kernel
theorem dX8_shrinkAll_58 : decode cX8_shrinkAll 58 = .ok (.iload 4, 2) := by decide +kernel
theorem dX8_shrinkAll_60 : decode cX8_shrinkAll 60 = .ok (.isub, 1) := by decide +kernel
theorem dX8_shrinkAll_61 : decode cX8_shrinkAll 61 = .ok (.iastore, 1) := by decide +kernel
theorem dX8_shrinkAll_62 : decode cX8_shrinkAll 62 = .ok (.iload_n 1, 1) := by decide +kernel
theorem dX8_shrinkAll_63 : decode cX8_shrinkAll 63 = .ok (.iload 4, 2) := by decide +kernel
theorem dX8_shrinkAll_65 : decode cX8_shrinkAll 65 = .ok (.iadd, 1) := by decide +kernel
theorem dX8_shrinkAll_66 : decode cX8_shrinkAll 66 = .ok (.istore_n 1, 1) := by decide +kernel
theorem dX8_shrinkAll_67 : decode cX8_shrinkAll 67 = .ok (.iinc 2 1, 3) := by decide +kernel
theorem dX8_shrinkAll_70 : decode cX8_shrinkAll 70 = .ok (.goto (-66), 3) := by decide +kernel
theorem dX8_shrinkAll_73 : decode cX8_shrinkAll 73 = .ok (.iload_n 1, 1) := by decide +kernel
theorem dX8_shrinkAll_74 : decode cX8_shrinkAll 74 = .ok (.ireturn, 1) := by decide +kernel
theorem dX8_exchange_0 : decode cX8_exchange 0 = .ok (.iconst 0, 1) := by decide +kernel
theorem dX8_exchange_1 : decode cX8_exchange 1 = .ok (.istore_n 3, 1) := by decide +kernel
theorem dX8_exchange_2 : decode cX8_exchange 2 = .ok (.iload_n 3, 1) := by decide +kernel
theorem dX8_exchange_3 : decode cX8_exchange 3 = .ok (.iconst 3, 1) := by decide +kernel
theorem dX8_exchange_4 : decode cX8_exchange 4 = .ok (.if_icmp .ge 53, 3) := by decide +kernel
theorem dX8_exchange_7 : decode cX8_exchange 7 = .ok (.aload_n 0, 1) := by decide +kernel
theorem dX8_exchange_8 : decode cX8_exchange 8 = .ok (.getfield 9, 3) := by decide +kernel
theorem dX8_exchange_11 : decode cX8_exchange 11 = .ok (.iload_n 1, 1) := by decide +kernel
theorem dX8_exchange_12 : decode cX8_exchange 12 = .ok (.iload_n 3, 1) := by decide +kernel
theorem dX8_exchange_13 : decode cX8_exchange 13 = .ok (.invokestatic 78, 3) := by decide +kernel
theorem dX8_exchange_16 : decode cX8_exchange 16 = .ok (.iaload, 1) := by decide +kernel
theorem dX8_exchange_17 : decode cX8_exchange 17 = .ok (.istore 4, 2) := by decide +kernel
theorem dX8_exchange_19 : decode cX8_exchange 19 = .ok (.aload_n 0, 1) := by decide +kernel
theorem dX8_exchange_20 : decode cX8_exchange 20 = .ok (.getfield 9, 3) := by decide +kernel
theorem dX8_exchange_23 : decode cX8_exchange 23 = .ok (.iload_n 1, 1) := by decide +kernel
theorem dX8_exchange_24 : decode cX8_exchange 24 = .ok (.iload_n 3, 1) := by decide +kernel
theorem dX8_exchange_25 : decode cX8_exchange 25 = .ok (.invokestatic 78, 3) := by decide +kernel
theorem dX8_exchange_28 : decode cX8_exchange 28 = .ok (.aload_n 0, 1) := by decide +kernel
theorem dX8_exchange_29 : decode cX8_exchange 29 = .ok (.getfield 9, 3) := by decide +kernel
theorem dX8_exchange_32 : decode cX8_exchange 32 = .ok (.iload_n 2, 1) := by decide +kernel
theorem dX8_exchange_33 : decode cX8_exchange 33 = .ok (.iload_n 3, 1) := by decide +kernel
theorem dX8_exchange_34 : decode cX8_exchange 34 = .ok (.invokestatic 78, 3) := by decide +kernel
theorem dX8_exchange_37 : decode cX8_exchange 37 = .ok (.iaload, 1) := by decide +kernel
theorem dX8_exchange_38 : decode cX8_exchange 38 = .ok (.iastore, 1) := by decide +kernel
theorem dX8_exchange_39 : decode cX8_exchange 39 = .ok (.aload_n 0, 1) := by decide +kernel
theorem dX8_exchange_40 : decode cX8_exchange 40 = .ok (.getfield 9, 3) := by decide +kernel
theorem dX8_exchange_43 : decode cX8_exchange 43 = .ok (.iload_n 2, 1) := by decide +kernel
theorem dX8_exchange_44 : decode cX8_exchange 44 = .ok (.iload_n 3, 1) := by decide +kernel
theorem dX8_exchange_45 : decode cX8_exchange 45 = .ok (.invokestatic 78, 3) := by decide +kernel
theorem dX8_exchange_48 : decode cX8_exchange 48 = .ok (.iload 4, 2) := by decide +kernel
theorem dX8_exchange_50 : decode cX8_exchange 50 = .ok (.iastore, 1) := by decide +kernel
theorem dX8_exchange_51 : decode cX8_exchange 51 = .ok (.iinc 3 1, 3) := by decide +kernel
theorem dX8_exchange_54 : decode cX8_exchange 54 = .ok (.goto (-52), 3) := by decide +kernel
theorem dX8_exchange_57 : decode cX8_exchange 57 = .ok (.return_, 1) := by decide +kernel
theorem dX8_endLog_0 : decode cX8_endLog 0 = .ok (.iconst 0, 1) := by decide +kernel
theorem dX8_endLog_1 : decode cX8_endLog 1 = .ok (.istore_n 1, 1) := by decide +kernel
theorem dX8_endLog_2 : decode cX8_endLog 2 = .ok (.iload_n 1, 1) := by decide +kernel
theorem dX8_endLog_3 : decode cX8_endLog 3 = .ok (.iconst 3, 1) := by decide +kernel
theorem dX8_endLog_4 : decode cX8_endLog 4 = .ok (.aload_n 0, 1) := by decide +kernel
theorem dX8_endLog_5 : decode cX8_endLog 5 = .ok (.getfield 47, 3) := by decide +kernel
theorem dX8_endLog_8 : decode cX8_endLog 8 = .ok (.imul, 1) := by decide +kernel
theorem dX8_endLog_9 : decode cX8_endLog 9 = .ok (.if_icmp .ge 20, 3) := by decide +kernel
theorem dX8_endLog_12 : decode cX8_endLog 12 = .ok (.aload_n 0, 1) := by decide +kernel
theorem dX8_endLog_13 : decode cX8_endLog 13 = .ok (.iload_n 1, 1) := by decide +kernel
theorem dX8_endLog_14 : decode cX8_endLog 14 = .ok (.aload_n 0, 1) := by decide +kernel
theorem dX8_endLog_15 : decode cX8_endLog 15 = .ok (.getfield 9, 3) := by decide +kernel
theorem dX8_endLog_18 : decode cX8_endLog 18 = .ok (.iload_n 1, 1) := by decide +kernel
theorem dX8_endLog_19 : decode cX8_endLog 19 = .ok (.iaload, 1) := by decide +kernel
theorem dX8_endLog_20 : decode cX8_endLog 20 = .ok (.invokevirtual 100, 3) := by decide +kernel
theorem dX8_endLog_23 : decode cX8_endLog 23 = .ok (.iinc 1 1, 3) := by decide +kernel
theorem dX8_endLog_26 : decode cX8_endLog 26 = .ok (.goto (-24), 3) := by decide +kernel
theorem dX8_endLog_29 : decode cX8_endLog 29 = .ok (.aload_n 0, 1) := by decide +kernel
theorem dX8_endLog_30 : decode cX8_endLog 30 = .ok (.getfield 36, 3) := by decide +kernel
theorem dX8_endLog_33 : decode cX8_endLog 33 = .ok (.istore_n 1, 1) := by decide +kernel
theorem dX8_endLog_34 : decode cX8_endLog 34 = .ok (.aload_n 0, 1) := by decide +kernel
theorem dX8_endLog_35 : decode cX8_endLog 35 = .ok (.iconst 0, 1) := by decide +kernel
theorem dX8_endLog_36 : decode cX8_endLog 36 = .ok (.putfield 36, 3) := by decide +kernel
theorem dX8_endLog_39 : decode cX8_endLog 39 = .ok (.iload_n 1, 1) := by decide +kernel
theorem dX8_endLog_40 : decode cX8_endLog 40 = .ok (.ireturn, 1) := by decide +kernel
theorem dX8_goBackTo_0 : decode cX8_goBackTo 0 = .ok (.aload_n 0, 1) := by decide +kernel
theorem dX8_goBackTo_1 : decode cX8_goBackTo 1 = .ok (.getfield 15, 3) := by decide +kernel
theorem dX8_goBackTo_4 : decode cX8_goBackTo 4 = .ok (.iconst 0, 1) := by decide +kernel
theorem dX8_goBackTo_5 : decode cX8_goBackTo 5 = .ok (.aload_n 0, 1) := by decide +kernel
theorem dX8_goBackTo_6 : decode cX8_goBackTo 6 = .ok (.getfield 9, 3) := by decide +kernel
theorem dX8_goBackTo_9 : decode cX8_goBackTo 9 = .ok (.iconst 0, 1) := by decide +kernel
theorem dX8_goBackTo_10 : decode cX8_goBackTo 10 = .ok (.aload_n 0, 1) := by decide +kernel
theorem dX8_goBackTo_11 : decode cX8_goBackTo 11 = .ok (.getfield 9, 3) := by decide +kernel
theorem dX8_goBackTo_14 : decode cX8_goBackTo 14 = .ok (.arraylength, 1) := by decide +kernel
theorem dX8_goBackTo_15 : decode cX8_goBackTo 15 = .ok (.invokestatic 30, 3) := by decide +kernel
theorem dX8_goBackTo_18 : decode cX8_goBackTo 18 = .ok (.iconst 0, 1) := by decide +kernel
theorem dX8_goBackTo_19 : decode cX8_goBackTo 19 = .ok (.istore_n 2, 1) := by decide +kernel
theorem dX8_goBackTo_20 : decode cX8_goBackTo 20 = .ok (.iload_n 2, 1) := by decide +kernel
theorem dX8_goBackTo_21 : decode cX8_goBackTo 21 = .ok (.iload_n 1, 1) := by decide +kernel
theorem dX8_goBackTo_22 : decode cX8_goBackTo 22 = .ok (.if_icmp .ge 14, 3) := by decide +kernel
theorem dX8_goBackTo_25 : decode cX8_goBackTo 25 = .ok (.aload_n 0, 1) := by decide +kernel
theorem dX8_goBackTo_26 : decode cX8_goBackTo 26 = .ok (.iload_n 2, 1) := by decide +kernel
theorem dX8_goBackTo_27 : decode cX8_goBackTo 27 = .ok (.invokevirtual 103, 3) := by decide +kernel
theorem dX8_goBackTo_30 : decode cX8_goBackTo 30 = .ok (.iinc 2 1, 3) := by decide +kernel
theorem dX8_goBackTo_33 : decode cX8_goBackTo 33 = .ok (.goto (-13), 3) := by decide +kernel
theorem dX8_goBackTo_36 : decode cX8_goBackTo 36 = .ok (.return_, 1) := by decide +kernel
theorem dX8_doAgain_0 : decode cX8_doAgain 0 = .ok (.aload_n 0, 1) := by decide +kernel
theorem dX8_doAgain_1 : decode cX8_doAgain 1 = .ok (.iload_n 1, 1) := by decide +kernel
theorem dX8_doAgain_2 : decode cX8_doAgain 2 = .ok (.iconst 0, 1) := by decide +kernel
theorem dX8_doAgain_3 : decode cX8_doAgain 3 = .ok (.invokevirtual 107, 3) := by decide +kernel
theorem dX8_doAgain_6 : decode cX8_doAgain 6 = .ok (.lookupswitch 66 #[(0, 26), (1, 58)], 26) := by decide +kernel
theorem dX8_doAgain_32 : decode cX8_doAgain 32 = .ok (.aload_n 0, 1) := by decide +kernel
theorem dX8_doAgain_33 : decode cX8_doAgain 33 = .ok (.getfield 9, 3) := by decide +kernel
theorem dX8_doAgain_36 : decode cX8_doAgain 36 = .ok (.aload_n 0, 1) := by decide +kernel
theorem dX8_doAgain_37 : decode cX8_doAgain 37 = .ok (.iload_n 1, 1) := by decide +kernel
theorem dX8_doAgain_38 : decode cX8_doAgain 38 = .ok (.iconst 2, 1) := by decide +kernel
theorem dX8_doAgain_39 : decode cX8_doAgain 39 = .ok (.invokevirtual 107, 3) := by decide +kernel
theorem dX8_doAgain_42 : decode cX8_doAgain 42 = .ok (.aload_n 0, 1) := by decide +kernel
theorem dX8_doAgain_43 : decode cX8_doAgain 43 = .ok (.iload_n 1, 1) := by decide +kernel
theorem dX8_doAgain_44 : decode cX8_doAgain 44 = .ok (.iconst 3, 1) := by decide +kernel
theorem dX8_doAgain_45 : decode cX8_doAgain 45 = .ok (.invokevirtual 107, 3) := by decide +kernel
theorem dX8_doAgain_48 : decode cX8_doAgain 48 = .ok (.invokestatic 78, 3) := by decide +kernel
theorem dX8_doAgain_51 : decode cX8_doAgain 51 = .ok (.dup2, 1) := by decide +kernel
theorem dX8_doAgain_52 : decode cX8_doAgain 52 = .ok (.iaload, 1) := by decide +kernel
theorem dX8_doAgain_53 : decode cX8_doAgain 53 = .ok (.aload_n 0, 1) := by decide +kernel
theorem dX8_doAgain_54 : decode cX8_doAgain 54 = .ok (.iload_n 1, 1) := by decide +kernel
theorem dX8_doAgain_55 : decode cX8_doAgain 55 = .ok (.iconst 5, 1) := by decide +kernel
theorem dX8_doAgain_56 : decode cX8_doAgain 56 = .ok (.invokevirtual 107, 3) := by decide +kernel
theorem dX8_doAgain_59 : decode cX8_doAgain 59 = .ok (.iadd, 1) := by decide +kernel
theorem dX8_doAgain_60 : decode cX8_doAgain 60 = .ok (.iastore, 1) := by decide +kernel
theorem dX8_doAgain_61 : decode cX8_doAgain 61 = .ok (.goto 27, 3) := by decide +kernel
theorem dX8_doAgain_64 : decode cX8_doAgain 64 = .ok (.aload_n 0, 1) := by decide +kernel
theorem dX8_doAgain_65 : decode cX8_doAgain 65 = .ok (.invokevirtual 93, 3) := by decide +kernel
theorem dX8_doAgain_68 : decode cX8_doAgain 68 = .ok (.pop, 1) := by decide +kernel
theorem dX8_doAgain_69 : decode cX8_doAgain 69 = .ok (.goto 19, 3) := by decide +kernel
theorem dX8_doAgain_72 : decode cX8_doAgain 72 = .ok (.aload_n 0, 1) := by decide +kernel
theorem dX8_doAgain_73 : decode cX8_doAgain 73 = .ok (.aload_n 0, 1) := by decide +kernel
theorem dX8_doAgain_74 : decode cX8_doAgain 74 = .ok (.iload_n 1, 1) := by decide +kernel
theorem dX8_doAgain_75 : decode cX8_doAgain 75 = .ok (.iconst 1, 1) := by decide +kernel
theorem dX8_doAgain_76 : decode cX8_doAgain 76 = .ok (.invokevirtual 107, 3) := by decide +kernel
theorem dX8_doAgain_79 : decode cX8_doAgain 79 = .ok (.aload_n 0, 1) := by decide +kernel
theorem dX8_doAgain_80 : decode cX8_doAgain 80 = .ok (.iload_n 1, 1) := by decide +kernel
theorem dX8_doAgain_81 : decode cX8_doAgain 81 = .ok (.iconst 2, 1) := by decide +kernel
theorem dX8_doAgain_82 : decode cX8_doAgain 82 = .ok (.invokevirtual 107, 3) := by decide +kernel
theorem dX8_doAgain_85 : decode cX8_doAgain 85 = .ok (.invokevirtual 97, 3) := by decide +kernel
theorem dX8_doAgain_88 : decode cX8_doAgain 88 = .ok (.return_, 1) := by decide +kernel
theorem dX8_part_0 : decode cX8_part 0 = .ok (.aload_n 0, 1) := by decide +kernel
theorem dX8_part_1 : decode cX8_part 1 = .ok (.getfield 27, 3) := by decide +kernel
theorem dX8_part_4 : decode cX8_part 4 = .ok (.bipush 6, 2) := by decide +kernel
theorem dX8_part_6 : decode cX8_part 6 = .ok (.iload_n 1, 1) := by decide +kernel
theorem dX8_part_7 : decode cX8_part 7 = .ok (.imul, 1) := by decide +kernel
theorem dX8_part_8 : decode cX8_part 8 = .ok (.iload_n 2, 1) := by decide +kernel
theorem dX8_part_9 : decode cX8_part 9 = .ok (.iadd, 1) := by decide +kernel
theorem dX8_part_10 : decode cX8_part 10 = .ok (.iaload, 1) := by decide +kernel
theorem dX8_part_11 : decode cX8_part 11 = .ok (.ireturn, 1) := by decide +kernel
theorem dX8_isTelling_0 : decode cX8_isTelling 0 = .ok (.aload_n 0, 1) := by decide +kernel
theorem dX8_isTelling_1 : decode cX8_isTelling 1 = .ok (.iload_n 1, 1) := by decide +kernel
theorem dX8_isTelling_2 : decode cX8_isTelling 2 = .ok (.iconst 0, 1) := by decide +kernel
theorem dX8_isTelling_3 : decode cX8_isTelling 3 = .ok (.invokevirtual 107, 3) := by decide +kernel
theorem dX8_isTelling_6 : decode cX8_isTelling 6 = .ok (.ifCond .ne 7, 3) := by decide +kernel
theorem dX8_isTelling_9 : decode cX8_isTelling 9 = .ok (.iconst 1, 1) := by decide +kernel
theorem dX8_isTelling_10 : decode cX8_isTelling 10 = .ok (.goto 4, 3) := by decide +kernel
theorem dX8_isTelling_13 : decode cX8_isTelling 13 = .ok (.iconst 0, 1) := by decide +kernel
theorem dX8_isTelling_14 : decode cX8_isTelling 14 = .ok (.ireturn, 1) := by decide +kernel
theorem dX8_isTellingBy_0 : decode cX8_isTellingBy 0 = .ok (.aload_n 0, 1) := by decide +kernel
theorem dX8_isTellingBy_1 : decode cX8_isTellingBy 1 = .ok (.iload_n 1, 1) := by decide +kernel
theorem dX8_isTellingBy_2 : decode cX8_isTellingBy 2 = .ok (.invokevirtual 110, 3) := by decide +kernel
theorem dX8_isTellingBy_5 : decode cX8_isTellingBy 5 = .ok (.ifCond .eq 17, 3) := by decide +kernel
theorem dX8_isTellingBy_8 : decode cX8_isTellingBy 8 = .ok (.aload_n 0, 1) := by decide +kernel
theorem dX8_isTellingBy_9 : decode cX8_isTellingBy 9 = .ok (.iload_n 1, 1) := by decide +kernel
theorem dX8_isTellingBy_10 : decode cX8_isTellingBy 10 = .ok (.iconst 1, 1) := by decide +kernel
theorem dX8_isTellingBy_11 : decode cX8_isTellingBy 11 = .ok (.invokevirtual 107, 3) := by decide +kernel
theorem dX8_isTellingBy_14 : decode cX8_isTellingBy 14 = .ok (.iload_n 2, 1) := by decide +kernel
theorem dX8_isTellingBy_15 : decode cX8_isTellingBy 15 = .ok (.if_icmp .ne 7, 3) := by decide +kernel
theorem dX8_isTellingBy_18 : decode cX8_isTellingBy 18 = .ok (.iconst 1, 1) := by decide +kernel
theorem dX8_isTellingBy_19 : decode cX8_isTellingBy 19 = .ok (.goto 4, 3) := by decide +kernel
theorem dX8_isTellingBy_22 : decode cX8_isTellingBy 22 = .ok (.iconst 0, 1) := by decide +kernel
theorem dX8_isTellingBy_23 : decode cX8_isTellingBy 23 = .ok (.ireturn, 1) := by decide +kernel
theorem dX8_isTellingOf_0 : decode cX8_isTellingOf 0 = .ok (.aload_n 0, 1) := by decide +kernel
theorem dX8_isTellingOf_1 : decode cX8_isTellingOf 1 = .ok (.iload_n 1, 1) := by decide +kernel
theorem dX8_isTellingOf_2 : decode cX8_isTellingOf 2 = .ok (.invokevirtual 110, 3) := by decide +kernel
theorem dX8_isTellingOf_5 : decode cX8_isTellingOf 5 = .ok (.ifCond .eq 17, 3) := by decide +kernel
theorem dX8_isTellingOf_8 : decode cX8_isTellingOf 8 = .ok (.aload_n 0, 1) := by decide +kernel
theorem dX8_isTellingOf_9 : decode cX8_isTellingOf 9 = .ok (.iload_n 1, 1) := by decide +kernel
theorem dX8_isTellingOf_10 : decode cX8_isTellingOf 10 = .ok (.iconst 2, 1) := by decide +kernel
theorem dX8_isTellingOf_11 : decode cX8_isTellingOf 11 = .ok (.invokevirtual 107, 3) := by decide +kernel
theorem dX8_isTellingOf_14 : decode cX8_isTellingOf 14 = .ok (.iload_n 2, 1) := by decide +kernel
theorem dX8_isTellingOf_15 : decode cX8_isTellingOf 15 = .ok (.if_icmp .ne 7, 3) := by decide +kernel
theorem dX8_isTellingOf_18 : decode cX8_isTellingOf 18 = .ok (.iconst 1, 1) := by decide +kernel
theorem dX8_isTellingOf_19 : decode cX8_isTellingOf 19 = .ok (.goto 4, 3) := by decide +kernel
theorem dX8_isTellingOf_22 : decode cX8_isTellingOf 22 = .ok (.iconst 0, 1) := by decide +kernel
theorem dX8_isTellingOf_23 : decode cX8_isTellingOf 23 = .ok (.ireturn, 1) := by decide +kernel
theorem dX8_tellingsBy_0 : decode cX8_tellingsBy 0 = .ok (.iconst 0, 1) := by decide +kernel
theorem dX8_tellingsBy_1 : decode cX8_tellingsBy 1 = .ok (.istore_n 2, 1) := by decide +kernel
theorem dX8_tellingsBy_2 : decode cX8_tellingsBy 2 = .ok (.iconst 0, 1) := by decide +kernel
theorem dX8_tellingsBy_3 : decode cX8_tellingsBy 3 = .ok (.istore_n 3, 1) := by decide +kernel
theorem dX8_tellingsBy_4 : decode cX8_tellingsBy 4 = .ok (.iload_n 3, 1) := by decide +kernel
theorem dX8_tellingsBy_5 : decode cX8_tellingsBy 5 = .ok (.aload_n 0, 1) := by decide +kernel
theorem dX8_tellingsBy_6 : decode cX8_tellingsBy 6 = .ok (.getfield 36, 3) := by decide +kernel
theorem dX8_tellingsBy_9 : decode cX8_tellingsBy 9 = .ok (.if_icmp .ge 21, 3) := by decide +kernel
theorem dX8_tellingsBy_12 : decode cX8_tellingsBy 12 = .ok (.aload_n 0, 1) := by decide +kernel
theorem dX8_tellingsBy_13 : decode cX8_tellingsBy 13 = .ok (.iload_n 3, 1) := by decide +kernel
theorem dX8_tellingsBy_14 : decode cX8_tellingsBy 14 = .ok (.iload_n 1, 1) := by decide +kernel
theorem dX8_tellingsBy_15 : decode cX8_tellingsBy 15 = .ok (.invokevirtual 113, 3) := by decide +kernel
theorem dX8_tellingsBy_18 : decode cX8_tellingsBy 18 = .ok (.ifCond .eq 6, 3) := by decide +kernel
theorem dX8_tellingsBy_21 : decode cX8_tellingsBy 21 = .ok (.iinc 2 1, 3) := by decide +kernel
theorem dX8_tellingsBy_24 : decode cX8_tellingsBy 24 = .ok (.iinc 3 1, 3) := by decide +kernel
theorem dX8_tellingsBy_27 : decode cX8_tellingsBy 27 = .ok (.goto (-23), 3) := by decide +kernel
theorem dX8_tellingsBy_30 : decode cX8_tellingsBy 30 = .ok (.iload_n 2, 1) := by decide +kernel
theorem dX8_tellingsBy_31 : decode cX8_tellingsBy 31 = .ok (.ireturn, 1) := by decide +kernel
theorem dX8_years_0 : decode cX8_years 0 = .ok (.iconst 0, 1) := by decide +kernel
theorem dX8_years_1 : decode cX8_years 1 = .ok (.istore_n 1, 1) := by decide +kernel
theorem dX8_years_2 : decode cX8_years 2 = .ok (.iconst 0, 1) := by decide +kernel
theorem dX8_years_3 : decode cX8_years 3 = .ok (.istore_n 2, 1) := by decide +kernel
theorem dX8_years_4 : decode cX8_years 4 = .ok (.iload_n 2, 1) := by decide +kernel
theorem dX8_years_5 : decode cX8_years 5 = .ok (.aload_n 0, 1) := by decide +kernel
theorem dX8_years_6 : decode cX8_years 6 = .ok (.getfield 36, 3) := by decide +kernel
theorem dX8_years_9 : decode cX8_years 9 = .ok (.if_icmp .ge 22, 3) := by decide +kernel
theorem dX8_years_12 : decode cX8_years 12 = .ok (.aload_n 0, 1) := by decide +kernel
theorem dX8_years_13 : decode cX8_years 13 = .ok (.iload_n 2, 1) := by decide +kernel
theorem dX8_years_14 : decode cX8_years 14 = .ok (.iconst 0, 1) := by decide +kernel
theorem dX8_years_15 : decode cX8_years 15 = .ok (.invokevirtual 107, 3) := by decide +kernel
theorem dX8_years_18 : decode cX8_years 18 = .ok (.iconst 1, 1) := by decide +kernel
theorem dX8_years_19 : decode cX8_years 19 = .ok (.if_icmp .ne 6, 3) := by decide +kernel
theorem dX8_years_22 : decode cX8_years 22 = .ok (.iinc 1 1, 3) := by decide +kernel
theorem dX8_years_25 : decode cX8_years 25 = .ok (.iinc 2 1, 3) := by decide +kernel
theorem dX8_years_28 : decode cX8_years 28 = .ok (.goto (-24), 3) := by decide +kernel
theorem dX8_years_31 : decode cX8_years 31 = .ok (.iload_n 1, 1) := by decide +kernel
theorem dX8_years_32 : decode cX8_years 32 = .ok (.ireturn, 1) := by decide +kernel
theorem dX9_init_0 : decode cX9_init 0 = .ok (.aload_n 0, 1) := by decide +kernel
theorem dX9_init_1 : decode cX9_init 1 = .ok (.invokespecial 3, 3) := by decide +kernel
theorem dX9_init_4 : decode cX9_init 4 = .ok (.aload_n 0, 1) := by decide +kernel
theorem dX9_init_5 : decode cX9_init 5 = .ok (.sipush 140, 3) := by decide +kernel
theorem dX9_init_8 : decode cX9_init 8 = .ok (.newarray .int, 2) := by decide +kernel
theorem dX9_init_10 : decode cX9_init 10 = .ok (.putfield 11, 3) := by decide +kernel
theorem dX9_init_13 : decode cX9_init 13 = .ok (.return_, 1) := by decide +kernel
theorem dX9_isFull_0 : decode cX9_isFull 0 = .ok (.aload_n 0, 1) := by decide +kernel
theorem dX9_isFull_1 : decode cX9_isFull 1 = .ok (.getfield 15, 3) := by decide +kernel
theorem dX9_isFull_4 : decode cX9_isFull 4 = .ok (.sipush 140, 3) := by decide +kernel
theorem dX9_isFull_7 : decode cX9_isFull 7 = .ok (.if_icmp .lt 7, 3) := by decide +kernel
theorem dX9_isFull_10 : decode cX9_isFull 10 = .ok (.iconst 1, 1) := by decide +kernel
theorem dX9_isFull_11 : decode cX9_isFull 11 = .ok (.goto 4, 3) := by decide +kernel
theorem dX9_isFull_14 : decode cX9_isFull 14 = .ok (.iconst 0, 1) := by decide +kernel
theorem dX9_isFull_15 : decode cX9_isFull 15 = .ok (.ireturn, 1) := by decide +kernel
theorem dX9_add_0 : decode cX9_add 0 = .ok (.aload_n 0, 1) := by decide +kernel
theorem dX9_add_1 : decode cX9_add 1 = .ok (.getfield 11, 3) := by decide +kernel
theorem dX9_add_4 : decode cX9_add 4 = .ok (.aload_n 0, 1) := by decide +kernel
theorem dX9_add_5 : decode cX9_add 5 = .ok (.getfield 15, 3) := by decide +kernel
theorem dX9_add_8 : decode cX9_add 8 = .ok (.iload_n 1, 1) := by decide +kernel
theorem dX9_add_9 : decode cX9_add 9 = .ok (.iastore, 1) := by decide +kernel
theorem dX9_add_10 : decode cX9_add 10 = .ok (.aload_n 0, 1) := by decide +kernel
theorem dX9_add_11 : decode cX9_add 11 = .ok (.dup, 1) := by decide +kernel
theorem dX9_add_12 : decode cX9_add 12 = .ok (.getfield 15, 3) := by decide +kernel
theorem dX9_add_15 : decode cX9_add 15 = .ok (.iconst 1, 1) := by decide +kernel
theorem dX9_add_16 : decode cX9_add 16 = .ok (.iadd, 1) := by decide +kernel
theorem dX9_add_17 : decode cX9_add 17 = .ok (.putfield 15, 3) := by decide +kernel
theorem dX9_add_20 : decode cX9_add 20 = .ok (.aload_n 0, 1) := by decide +kernel
theorem dX9_add_21 : decode cX9_add 21 = .ok (.getfield 15, 3) := by decide +kernel
theorem dX9_add_24 : decode cX9_add 24 = .ok (.ireturn, 1) := by decide +kernel
theorem dX9_readInto_0 : decode cX9_readInto 0 = .ok (.aload_n 0, 1) := by decide +kernel
theorem dX9_readInto_1 : decode cX9_readInto 1 = .ok (.iconst 0, 1) := by decide +kernel
theorem dX9_readInto_2 : decode cX9_readInto 2 = .ok (.putfield 19, 3) := by decide +kernel
theorem dX9_readInto_5 : decode cX9_readInto 5 = .ok (.aload_n 1, 1) := by decide +kernel
theorem dX9_readInto_6 : decode cX9_readInto 6 = .ok (.invokevirtual 22, 3) := by decide +kernel
theorem dX9_readInto_9 : decode cX9_readInto 9 = .ok (.aload_n 0, 1) := by decide +kernel
theorem dX9_readInto_10 : decode cX9_readInto 10 = .ok (.aload_n 1, 1) := by decide +kernel
theorem dX9_readInto_11 : decode cX9_readInto 11 = .ok (.invokevirtual 27, 3) := by decide +kernel
theorem dX9_readInto_14 : decode cX9_readInto 14 = .ok (.ifCond .eq 23, 3) := by decide +kernel
theorem dX9_readInto_17 : decode cX9_readInto 17 = .ok (.aload_n 0, 1) := by decide +kernel
theorem dX9_readInto_18 : decode cX9_readInto 18 = .ok (.aload_n 1, 1) := by decide +kernel
theorem dX9_readInto_19 : decode cX9_readInto 19 = .ok (.invokevirtual 31, 3) := by decide +kernel
theorem dX9_readInto_22 : decode cX9_readInto 22 = .ok (.ifCond .eq 15, 3) := by decide +kernel
theorem dX9_readInto_25 : decode cX9_readInto 25 = .ok (.aload_n 0, 1) := by decide +kernel
theorem dX9_readInto_26 : decode cX9_readInto 26 = .ok (.aload_n 1, 1) := by decide +kernel
theorem dX9_readInto_27 : decode cX9_readInto 27 = .ok (.invokevirtual 34, 3) := by decide +kernel
theorem dX9_readInto_30 : decode cX9_readInto 30 = .ok (.ifCond .eq 7, 3) := by decide +kernel
theorem dX9_readInto_33 : decode cX9_readInto 33 = .ok (.iconst 1, 1) := by decide +kernel
theorem dX9_readInto_34 : decode cX9_readInto 34 = .ok (.goto 4, 3) := by decide +kernel
theorem dX9_readInto_37 : decode cX9_readInto 37 = .ok (.iconst 0, 1) := by decide +kernel
theorem dX9_readInto_38 : decode cX9_readInto 38 = .ok (.ireturn, 1) := by decide +kernel
theorem dX9_readLaw_0 : decode cX9_readLaw 0 = .ok (.aload_n 0, 1) := by decide +kernel
theorem dX9_readLaw_1 : decode cX9_readLaw 1 = .ok (.bipush 119, 2) := by decide +kernel
theorem dX9_readLaw_3 : decode cX9_readLaw 3 = .ok (.invokevirtual 37, 3) := by decide +kernel
theorem dX9_readLaw_6 : decode cX9_readLaw 6 = .ok (.ifCond .eq 22, 3) := by decide +kernel
theorem dX9_readLaw_9 : decode cX9_readLaw 9 = .ok (.aload_n 0, 1) := by decide +kernel
theorem dX9_readLaw_10 : decode cX9_readLaw 10 = .ok (.iconst 2, 1) := by decide +kernel
theorem dX9_readLaw_11 : decode cX9_readLaw 11 = .ok (.bipush 20, 2) := by decide +kernel
theorem dX9_readLaw_13 : decode cX9_readLaw 13 = .ok (.invokevirtual 41, 3) := by decide +kernel
theorem dX9_readLaw_16 : decode cX9_readLaw 16 = .ok (.ifCond .eq 12, 3) := by decide +kernel
theorem dX9_readLaw_19 : decode cX9_readLaw 19 = .ok (.aload_n 0, 1) := by decide +kernel
theorem dX9_readLaw_20 : decode cX9_readLaw 20 = .ok (.bipush 59, 2) := by decide +kernel
theorem dX9_readLaw_22 : decode cX9_readLaw 22 = .ok (.invokevirtual 37, 3) := by decide +kernel
theorem dX9_readLaw_25 : decode cX9_readLaw 25 = .ok (.ifCond .ne 5, 3) := by decide +kernel
theorem dX9_readLaw_28 : decode cX9_readLaw 28 = .ok (.iconst 0, 1) := by decide +kernel
theorem dX9_readLaw_29 : decode cX9_readLaw 29 = .ok (.ireturn, 1) := by decide +kernel
theorem dX9_readLaw_30 : decode cX9_readLaw 30 = .ok (.aload_n 1, 1) := by decide +kernel
theorem dX9_readLaw_31 : decode cX9_readLaw 31 = .ok (.aload_n 0, 1) := by decide +kernel
theorem dX9_readLaw_32 : decode cX9_readLaw 32 = .ok (.getfield 45, 3) := by decide +kernel
theorem dX9_readLaw_35 : decode cX9_readLaw 35 = .ok (.putfield 48, 3) := by decide +kernel
theorem dX9_readLaw_38 : decode cX9_readLaw 38 = .ok (.iconst 1, 1) := by decide +kernel
theorem dX9_readLaw_39 : decode cX9_readLaw 39 = .ok (.ireturn, 1) := by decide +kernel
theorem dX9_readDummies_0 : decode cX9_readDummies 0 = .ok (.iconst 0, 1) := by decide +kernel
theorem dX9_readDummies_1 : decode cX9_readDummies 1 = .ok (.istore_n 2, 1) := by decide +kernel
theorem dX9_readDummies_2 : decode cX9_readDummies 2 = .ok (.iload_n 2, 1) := by decide +kernel
theorem dX9_readDummies_3 : decode cX9_readDummies 3 = .ok (.iconst 4, 1) := by decide +kernel
theorem dX9_readDummies_4 : decode cX9_readDummies 4 = .ok (.if_icmp .gt 57, 3) := by decide +kernel
theorem dX9_readDummies_7 : decode cX9_readDummies 7 = .ok (.aload_n 0, 1) := by decide +kernel
theorem dX9_readDummies_8 : decode cX9_readDummies 8 = .ok (.bipush 100, 2) := by decide +kernel
theorem dX9_readDummies_10 : decode cX9_readDummies 10 = .ok (.invokevirtual 51, 3) := by decide +kernel
theorem dX9_readDummies_13 : decode cX9_readDummies 13 = .ok (.ifCond .eq 48, 3) := by decide +kernel
theorem dX9_readDummies_16 : decode cX9_readDummies 16 = .ok (.iload_n 2, 1) := by decide +kernel
theorem dX9_readDummies_17 : decode cX9_readDummies 17 = .ok (.iconst 4, 1) := by decide +kernel
theorem dX9_readDummies_18 : decode cX9_readDummies 18 = .ok (.if_icmp .ne 9, 3) := by decide +kernel
theorem dX9_readDummies_21 : decode cX9_readDummies 21 = .ok (.aload_n 0, 1) := by decide +kernel
theorem dX9_readDummies_22 : decode cX9_readDummies 22 = .ok (.iconst 3, 1) := by decide +kernel
theorem dX9_readDummies_23 : decode cX9_readDummies 23 = .ok (.invokevirtual 54, 3) := by decide +kernel
theorem dX9_readDummies_26 : decode cX9_readDummies 26 = .ok (.ireturn, 1) := by decide +kernel
theorem dX9_readDummies_27 : decode cX9_readDummies 27 = .ok (.aload_n 0, 1) := by decide +kernel
theorem dX9_readDummies_28 : decode cX9_readDummies 28 = .ok (.dup, 1) := by decide +kernel
theorem dX9_readDummies_29 : decode cX9_readDummies 29 = .ok (.getfield 19, 3) := by decide +kernel
theorem dX9_readDummies_32 : decode cX9_readDummies 32 = .ok (.iconst 1, 1) := by decide +kernel
theorem dX9_readDummies_33 : decode cX9_readDummies 33 = .ok (.iadd, 1) := by decide +kernel
theorem dX9_readDummies_34 : decode cX9_readDummies 34 = .ok (.putfield 19, 3) := by decide +kernel
theorem dX9_readDummies_37 : decode cX9_readDummies 37 = .ok (.aload_n 0, 1) := by decide +kernel
theorem dX9_readDummies_38 : decode cX9_readDummies 38 = .ok (.aload_n 1, 1) := by decide +kernel
theorem dX9_readDummies_39 : decode cX9_readDummies 39 = .ok (.iload_n 2, 1) := by decide +kernel
theorem dX9_readDummies_40 : decode cX9_readDummies 40 = .ok (.invokevirtual 58, 3) := by decide +kernel
theorem dX9_readDummies_43 : decode cX9_readDummies 43 = .ok (.ifCond .ne 5, 3) := by decide +kernel
theorem dX9_readDummies_46 : decode cX9_readDummies 46 = .ok (.iconst 0, 1) := by decide +kernel
theorem dX9_readDummies_47 : decode cX9_readDummies 47 = .ok (.ireturn, 1) := by decide +kernel
theorem dX9_readDummies_48 : decode cX9_readDummies 48 = .ok (.aload_n 1, 1) := by decide +kernel
theorem dX9_readDummies_49 : decode cX9_readDummies 49 = .ok (.iload_n 2, 1) := by decide +kernel
theorem dX9_readDummies_50 : decode cX9_readDummies 50 = .ok (.iconst 1, 1) := by decide +kernel
theorem dX9_readDummies_51 : decode cX9_readDummies 51 = .ok (.iadd, 1) := by decide +kernel
theorem dX9_readDummies_52 : decode cX9_readDummies 52 = .ok (.putfield 62, 3) := by decide +kernel
theorem dX9_readDummies_55 : decode cX9_readDummies 55 = .ok (.iinc 2 1, 3) := by decide +kernel
theorem dX9_readDummies_58 : decode cX9_readDummies 58 = .ok (.goto (-56), 3) := by decide +kernel
theorem dX9_readDummies_61 : decode cX9_readDummies 61 = .ok (.iconst 1, 1) := by decide +kernel
theorem dX9_readDummies_62 : decode cX9_readDummies 62 = .ok (.ireturn, 1) := by decide +kernel
theorem dX9_readInches_0 : decode cX9_readInches 0 = .ok (.iconst 0, 1) := by decide +kernel
theorem dX9_readInches_1 : decode cX9_readInches 1 = .ok (.istore_n 3, 1) := by decide +kernel
theorem dX9_readInches_2 : decode cX9_readInches 2 = .ok (.iload_n 3, 1) := by decide +kernel
theorem dX9_readInches_3 : decode cX9_readInches 3 = .ok (.iconst 3, 1) := by decide +kernel
theorem dX9_readInches_4 : decode cX9_readInches 4 = .ok (.if_icmp .ge 57, 3) := by decide +kernel
theorem dX9_readInches_7 : decode cX9_readInches 7 = .ok (.iload_n 3, 1) := by decide +kernel
theorem dX9_readInches_8 : decode cX9_readInches 8 = .ok (.iconst 2, 1) := by decide +kernel
theorem dX9_readInches_9 : decode cX9_readInches 9 = .ok (.if_icmp .ne 8, 3) := by decide +kernel
theorem dX9_readInches_12 : decode cX9_readInches 12 = .ok (.bipush 59, 2) := by decide +kernel
theorem dX9_readInches_14 : decode cX9_readInches 14 = .ok (.goto 5, 3) := by decide +kernel
theorem dX9_readInches_17 : decode cX9_readInches 17 = .ok (.bipush 44, 2) := by decide +kernel
theorem dX9_readInches_19 : decode cX9_readInches 19 = .ok (.istore 4, 2) := by decide +kernel
theorem dX9_readInches_21 : decode cX9_readInches 21 = .ok (.aload_n 0, 1) := by decide +kernel
theorem dX9_readInches_22 : decode cX9_readInches 22 = .ok (.iconst 0, 1) := by decide +kernel
theorem dX9_readInches_23 : decode cX9_readInches 23 = .ok (.bipush 99, 2) := by decide +kernel
theorem dX9_readInches_25 : decode cX9_readInches 25 = .ok (.invokevirtual 41, 3) := by decide +kernel
theorem dX9_readInches_28 : decode cX9_readInches 28 = .ok (.ifCond .eq 12, 3) := by decide +kernel
theorem dX9_readInches_31 : decode cX9_readInches 31 = .ok (.aload_n 0, 1) := by decide +kernel
theorem dX9_readInches_32 : decode cX9_readInches 32 = .ok (.iload 4, 2) := by decide +kernel
theorem dX9_readInches_34 : decode cX9_readInches 34 = .ok (.invokevirtual 37, 3) := by decide +kernel
theorem dX9_readInches_37 : decode cX9_readInches 37 = .ok (.ifCond .ne 5, 3) := by decide +kernel
theorem dX9_readInches_40 : decode cX9_readInches 40 = .ok (.iconst 0, 1) := by decide +kernel
theorem dX9_readInches_41 : decode cX9_readInches 41 = .ok (.ireturn, 1) := by decide +kernel
theorem dX9_readInches_42 : decode cX9_readInches 42 = .ok (.aload_n 1, 1) := by decide +kernel
theorem dX9_readInches_43 : decode cX9_readInches 43 = .ok (.iload_n 2, 1) := by decide +kernel
theorem dX9_readInches_44 : decode cX9_readInches 44 = .ok (.iload_n 3, 1) := by decide +kernel
theorem dX9_readInches_45 : decode cX9_readInches 45 = .ok (.invokestatic 65, 3) := by decide +kernel
theorem dX9_readInches_48 : decode cX9_readInches 48 = .ok (.aload_n 0, 1) := by decide +kernel
theorem dX9_readInches_49 : decode cX9_readInches 49 = .ok (.getfield 45, 3) := by decide +kernel
theorem dX9_readInches_52 : decode cX9_readInches 52 = .ok (.invokevirtual 69, 3) := by decide +kernel
theorem dX9_readInches_55 : decode cX9_readInches 55 = .ok (.iinc 3 1, 3) := by decide +kernel
theorem dX9_readInches_58 : decode cX9_readInches 58 = .ok (.goto (-56), 3) := by decide +kernel
theorem dX9_readInches_61 : decode cX9_readInches 61 = .ok (.iconst 1, 1) := by decide +kernel
theorem dX9_readInches_62 : decode cX9_readInches 62 = .ok (.ireturn, 1) := by decide +kernel
theorem dX9_readMouths_0 : decode cX9_readMouths 0 = .ok (.iconst 0, 1) := by decide +kernel
theorem dX9_readMouths_1 : decode cX9_readMouths 1 = .ok (.istore_n 2, 1) := by decide +kernel
theorem dX9_readMouths_2 : decode cX9_readMouths 2 = .ok (.iload_n 2, 1) := by decide +kernel
theorem dX9_readMouths_3 : decode cX9_readMouths 3 = .ok (.iconst 5, 1) := by decide +kernel
theorem dX9_readMouths_4 : decode cX9_readMouths 4 = .ok (.if_icmp .gt 96, 3) := by decide +kernel
theorem dX9_readMouths_7 : decode cX9_readMouths 7 = .ok (.aload_n 0, 1) := by decide +kernel
theorem dX9_readMouths_8 : decode cX9_readMouths 8 = .ok (.getfield 19, 3) := by decide +kernel
theorem dX9_readMouths_11 : decode cX9_readMouths 11 = .ok (.aload_n 0, 1) := by decide +kernel
theorem dX9_readMouths_12 : decode cX9_readMouths 12 = .ok (.getfield 15, 3) := by decide +kernel
theorem dX9_readMouths_15 : decode cX9_readMouths 15 = .ok (.if_icmp .ge 85, 3) := by decide +kernel
theorem dX9_readMouths_18 : decode cX9_readMouths 18 = .ok (.aload_n 0, 1) := by decide +kernel
theorem dX9_readMouths_19 : decode cX9_readMouths 19 = .ok (.getfield 11, 3) := by decide +kernel
theorem dX9_readMouths_22 : decode cX9_readMouths 22 = .ok (.aload_n 0, 1) := by decide +kernel
theorem dX9_readMouths_23 : decode cX9_readMouths 23 = .ok (.getfield 19, 3) := by decide +kernel
theorem dX9_readMouths_26 : decode cX9_readMouths 26 = .ok (.iaload, 1) := by decide +kernel
theorem dX9_readMouths_27 : decode cX9_readMouths 27 = .ok (.invokestatic 73, 3) := by decide +kernel
theorem dX9_readMouths_30 : decode cX9_readMouths 30 = .ok (.istore_n 3, 1) := by decide +kernel
theorem dX9_readMouths_31 : decode cX9_readMouths 31 = .ok (.iload_n 3, 1) := by decide +kernel
theorem dX9_readMouths_32 : decode cX9_readMouths 32 = .ok (.ldc 77, 2) := by decide +kernel
theorem dX9_readMouths_34 : decode cX9_readMouths 34 = .ok (.if_icmp .ne 9, 3) := by decide +kernel
theorem dX9_readMouths_37 : decode cX9_readMouths 37 = .ok (.aload_n 0, 1) := by decide +kernel
theorem dX9_readMouths_38 : decode cX9_readMouths 38 = .ok (.iconst 1, 1) := by decide +kernel
theorem dX9_readMouths_39 : decode cX9_readMouths 39 = .ok (.invokevirtual 54, 3) := by decide +kernel
theorem dX9_readMouths_42 : decode cX9_readMouths 42 = .ok (.ireturn, 1) := by decide +kernel
theorem dX9_readMouths_43 : decode cX9_readMouths 43 = .ok (.iload_n 2, 1) := by decide +kernel
theorem dX9_readMouths_44 : decode cX9_readMouths 44 = .ok (.iconst 5, 1) := by decide +kernel
theorem dX9_readMouths_45 : decode cX9_readMouths 45 = .ok (.if_icmp .ne 9, 3) := by decide +kernel
theorem dX9_readMouths_48 : decode cX9_readMouths 48 = .ok (.aload_n 0, 1) := by decide +kernel
theorem dX9_readMouths_49 : decode cX9_readMouths 49 = .ok (.iconst 3, 1) := by decide +kernel
theorem dX9_readMouths_50 : decode cX9_readMouths 50 = .ok (.invokevirtual 54, 3) := by decide +kernel
theorem dX9_readMouths_53 : decode cX9_readMouths 53 = .ok (.ireturn, 1) := by decide +kernel
theorem dX9_readMouths_54 : decode cX9_readMouths 54 = .ok (.aload_n 0, 1) := by decide +kernel
theorem dX9_readMouths_55 : decode cX9_readMouths 55 = .ok (.dup, 1) := by decide +kernel
theorem dX9_readMouths_56 : decode cX9_readMouths 56 = .ok (.getfield 19, 3) := by decide +kernel
theorem dX9_readMouths_59 : decode cX9_readMouths 59 = .ok (.iconst 1, 1) := by decide +kernel
theorem dX9_readMouths_60 : decode cX9_readMouths 60 = .ok (.iadd, 1) := by decide +kernel
theorem dX9_readMouths_61 : decode cX9_readMouths 61 = .ok (.putfield 19, 3) := by decide +kernel
theorem dX9_readMouths_64 : decode cX9_readMouths 64 = .ok (.aload_n 0, 1) := by decide +kernel
theorem dX9_readMouths_65 : decode cX9_readMouths 65 = .ok (.iconst 0, 1) := by decide +kernel
theorem dX9_readMouths_66 : decode cX9_readMouths 66 = .ok (.bipush 99, 2) := by decide +kernel
theorem dX9_readMouths_68 : decode cX9_readMouths 68 = .ok (.invokevirtual 41, 3) := by decide +kernel
theorem dX9_readMouths_71 : decode cX9_readMouths 71 = .ok (.ifCond .eq 12, 3) := by decide +kernel
theorem dX9_readMouths_74 : decode cX9_readMouths 74 = .ok (.aload_n 0, 1) := by decide +kernel
theorem dX9_readMouths_75 : decode cX9_readMouths 75 = .ok (.bipush 59, 2) := by decide +kernel
theorem dX9_readMouths_77 : decode cX9_readMouths 77 = .ok (.invokevirtual 37, 3) := by decide +kernel
theorem dX9_readMouths_80 : decode cX9_readMouths 80 = .ok (.ifCond .ne 5, 3) := by decide +kernel
theorem dX9_readMouths_83 : decode cX9_readMouths 83 = .ok (.iconst 0, 1) := by decide +kernel
theorem dX9_readMouths_84 : decode cX9_readMouths 84 = .ok (.ireturn, 1) := by decide +kernel
theorem dX9_readMouths_85 : decode cX9_readMouths 85 = .ok (.aload_n 1, 1) := by decide +kernel
theorem dX9_readMouths_86 : decode cX9_readMouths 86 = .ok (.iload_n 3, 1) := by decide +kernel
theorem dX9_readMouths_87 : decode cX9_readMouths 87 = .ok (.aload_n 0, 1) := by decide +kernel
theorem dX9_readMouths_88 : decode cX9_readMouths 88 = .ok (.getfield 45, 3) := by decide +kernel
theorem dX9_readMouths_91 : decode cX9_readMouths 91 = .ok (.invokevirtual 78, 3) := by decide +kernel
theorem dX9_readMouths_94 : decode cX9_readMouths 94 = .ok (.iinc 2 1, 3) := by decide +kernel
theorem dX9_readMouths_97 : decode cX9_readMouths 97 = .ok (.goto (-95), 3) := by decide +kernel
theorem dX9_readMouths_100 : decode cX9_readMouths 100 = .ok (.iconst 1, 1) := by decide +kernel
theorem dX9_readMouths_101 : decode cX9_readMouths 101 = .ok (.ireturn, 1) := by decide +kernel
theorem dX9_kindOf_0 : decode cX9_kindOf 0 = .ok (.iload_n 0, 1) := by decide +kernel
theorem dX9_kindOf_1 : decode cX9_kindOf 1 = .ok (.lookupswitch 61 #[(103, 57), (107, 53), (114, 55), (115, 59), (118, 51)], 51) := by decide +kernel
theorem dX9_kindOf_52 : decode cX9_kindOf 52 = .ok (.iconst 1, 1) := by decide +kernel
theorem dX9_kindOf_53 : decode cX9_kindOf 53 = .ok (.ireturn, 1) := by decide +kernel
theorem dX9_kindOf_54 : decode cX9_kindOf 54 = .ok (.iconst 2, 1) := by decide +kernel
theorem dX9_kindOf_55 : decode cX9_kindOf 55 = .ok (.ireturn, 1) := by decide +kernel
theorem dX9_kindOf_56 : decode cX9_kindOf 56 = .ok (.iconst 3, 1) := by decide +kernel
theorem dX9_kindOf_57 : decode cX9_kindOf 57 = .ok (.ireturn, 1) := by decide +kernel
theorem dX9_kindOf_58 : decode cX9_kindOf 58 = .ok (.iconst 4, 1) := by decide +kernel
theorem dX9_kindOf_59 : decode cX9_kindOf 59 = .ok (.ireturn, 1) := by decide +kernel
theorem dX9_kindOf_60 : decode cX9_kindOf 60 = .ok (.iconst 5, 1) := by decide +kernel
theorem dX9_kindOf_61 : decode cX9_kindOf 61 = .ok (.ireturn, 1) := by decide +kernel
theorem dX9_kindOf_62 : decode cX9_kindOf 62 = .ok (.ldc 77, 2) := by decide +kernel
theorem dX9_kindOf_64 : decode cX9_kindOf 64 = .ok (.ireturn, 1) := by decide +kernel
theorem dX9_comes_0 : decode cX9_comes 0 = .ok (.aload_n 0, 1) := by decide +kernel
theorem dX9_comes_1 : decode cX9_comes 1 = .ok (.getfield 19, 3) := by decide +kernel
theorem dX9_comes_4 : decode cX9_comes 4 = .ok (.aload_n 0, 1) := by decide +kernel
theorem dX9_comes_5 : decode cX9_comes 5 = .ok (.getfield 15, 3) := by decide +kernel
theorem dX9_comes_8 : decode cX9_comes 8 = .ok (.if_icmp .ge 20, 3) := by decide +kernel
theorem dX9_comes_11 : decode cX9_comes 11 = .ok (.aload_n 0, 1) := by decide +kernel
theorem dX9_comes_12 : decode cX9_comes 12 = .ok (.getfield 11, 3) := by decide +kernel
theorem dX9_comes_15 : decode cX9_comes 15 = .ok (.aload_n 0, 1) := by decide +kernel
theorem dX9_comes_16 : decode cX9_comes 16 = .ok (.getfield 19, 3) := by decide +kernel
theorem dX9_comes_19 : decode cX9_comes 19 = .ok (.iaload, 1) := by decide +kernel
theorem dX9_comes_20 : decode cX9_comes 20 = .ok (.iload_n 1, 1) := by decide +kernel
theorem dX9_comes_21 : decode cX9_comes 21 = .ok (.if_icmp .ne 7, 3) := by decide +kernel
theorem dX9_comes_24 : decode cX9_comes 24 = .ok (.iconst 1, 1) := by decide +kernel
theorem dX9_comes_25 : decode cX9_comes 25 = .ok (.goto 4, 3) := by decide +kernel
theorem dX9_comes_28 : decode cX9_comes 28 = .ok (.iconst 0, 1) := by decide +kernel
theorem dX9_comes_29 : decode cX9_comes 29 = .ok (.ireturn, 1) := by decide +kernel
theorem dX9_readByte_0 : decode cX9_readByte 0 = .ok (.aload_n 0, 1) := by decide +kernel
theorem dX9_readByte_1 : decode cX9_readByte 1 = .ok (.iload_n 1, 1) := by decide +kernel
theorem dX9_readByte_2 : decode cX9_readByte 2 = .ok (.invokevirtual 51, 3) := by decide +kernel
theorem dX9_readByte_5 : decode cX9_readByte 5 = .ok (.ifCond .ne 9, 3) := by decide +kernel
theorem dX9_readByte_8 : decode cX9_readByte 8 = .ok (.aload_n 0, 1) := by decide +kernel
theorem dX9_readByte_9 : decode cX9_readByte 9 = .ok (.iconst 1, 1) := by decide +kernel
theorem dX9_readByte_10 : decode cX9_readByte 10 = .ok (.invokevirtual 54, 3) := by decide +kernel
theorem dX9_readByte_13 : decode cX9_readByte 13 = .ok (.ireturn, 1) := by decide +kernel
theorem dX9_readByte_14 : decode cX9_readByte 14 = .ok (.aload_n 0, 1) := by decide +kernel
theorem dX9_readByte_15 : decode cX9_readByte 15 = .ok (.dup, 1) := by decide +kernel
theorem dX9_readByte_16 : decode cX9_readByte 16 = .ok (.getfield 19, 3) := by decide +kernel
theorem dX9_readByte_19 : decode cX9_readByte 19 = .ok (.iconst 1, 1) := by decide +kernel
theorem dX9_readByte_20 : decode cX9_readByte 20 = .ok (.iadd, 1) := by decide +kernel
theorem dX9_readByte_21 : decode cX9_readByte 21 = .ok (.putfield 19, 3) := by decide +kernel
theorem dX9_readByte_24 : decode cX9_readByte 24 = .ok (.iconst 1, 1) := by decide +kernel
theorem dX9_readByte_25 : decode cX9_readByte 25 = .ok (.ireturn, 1) := by decide +kernel
theorem dX9_readNumber_0 : decode cX9_readNumber 0 = .ok (.iconst 0, 1) := by decide +kernel
theorem dX9_readNumber_1 : decode cX9_readNumber 1 = .ok (.istore_n 3, 1) := by decide +kernel
theorem dX9_readNumber_2 : decode cX9_readNumber 2 = .ok (.aload_n 0, 1) := by decide +kernel
theorem dX9_readNumber_3 : decode cX9_readNumber 3 = .ok (.iconst 0, 1) := by decide +kernel
theorem dX9_readNumber_4 : decode cX9_readNumber 4 = .ok (.putfield 45, 3) := by decide +kernel
theorem dX9_readNumber_7 : decode cX9_readNumber 7 = .ok (.iload_n 3, 1) := by decide +kernel
theorem dX9_readNumber_8 : decode cX9_readNumber 8 = .ok (.iconst 2, 1) := by decide +kernel
theorem dX9_readNumber_9 : decode cX9_readNumber 9 = .ok (.if_icmp .gt 48, 3) := by decide +kernel
theorem dX9_readNumber_12 : decode cX9_readNumber 12 = .ok (.aload_n 0, 1) := by decide +kernel
theorem dX9_readNumber_13 : decode cX9_readNumber 13 = .ok (.aload_n 0, 1) := by decide +kernel
theorem dX9_readNumber_14 : decode cX9_readNumber 14 = .ok (.getfield 19, 3) := by decide +kernel
theorem dX9_readNumber_17 : decode cX9_readNumber 17 = .ok (.iload_n 3, 1) := by decide +kernel
theorem dX9_readNumber_18 : decode cX9_readNumber 18 = .ok (.iadd, 1) := by decide +kernel
theorem dX9_readNumber_19 : decode cX9_readNumber 19 = .ok (.invokevirtual 81, 3) := by decide +kernel
theorem dX9_readNumber_22 : decode cX9_readNumber 22 = .ok (.ifCond .eq 35, 3) := by decide +kernel
theorem dX9_readNumber_25 : decode cX9_readNumber 25 = .ok (.aload_n 0, 1) := by decide +kernel
theorem dX9_readNumber_26 : decode cX9_readNumber 26 = .ok (.bipush 10, 2) := by decide +kernel
theorem dX9_readNumber_28 : decode cX9_readNumber 28 = .ok (.aload_n 0, 1) := by decide +kernel
theorem dX9_readNumber_29 : decode cX9_readNumber 29 = .ok (.getfield 45, 3) := by decide +kernel
theorem dX9_readNumber_32 : decode cX9_readNumber 32 = .ok (.imul, 1) := by decide +kernel
theorem dX9_readNumber_33 : decode cX9_readNumber 33 = .ok (.aload_n 0, 1) := by decide +kernel
theorem dX9_readNumber_34 : decode cX9_readNumber 34 = .ok (.getfield 11, 3) := by decide +kernel
theorem dX9_readNumber_37 : decode cX9_readNumber 37 = .ok (.aload_n 0, 1) := by decide +kernel
theorem dX9_readNumber_38 : decode cX9_readNumber 38 = .ok (.getfield 19, 3) := by decide +kernel
theorem dX9_readNumber_41 : decode cX9_readNumber 41 = .ok (.iload_n 3, 1) := by decide +kernel
theorem dX9_readNumber_42 : decode cX9_readNumber 42 = .ok (.iadd, 1) := by decide +kernel
theorem dX9_readNumber_43 : decode cX9_readNumber 43 = .ok (.iaload, 1) := by decide +kernel
theorem dX9_readNumber_44 : decode cX9_readNumber 44 = .ok (.iadd, 1) := by decide +kernel
theorem dX9_readNumber_45 : decode cX9_readNumber 45 = .ok (.bipush 48, 2) := by decide +kernel
theorem dX9_readNumber_47 : decode cX9_readNumber 47 = .ok (.isub, 1) := by decide +kernel
theorem dX9_readNumber_48 : decode cX9_readNumber 48 = .ok (.putfield 45, 3) := by decide +kernel
theorem dX9_readNumber_51 : decode cX9_readNumber 51 = .ok (.iinc 3 1, 3) := by decide +kernel
theorem dX9_readNumber_54 : decode cX9_readNumber 54 = .ok (.goto (-47), 3) := by decide +kernel
theorem dX9_readNumber_57 : decode cX9_readNumber 57 = .ok (.iload_n 3, 1) := by decide +kernel
theorem dX9_readNumber_58 : decode cX9_readNumber 58 = .ok (.ifCond .eq 8, 3) := by decide +kernel
theorem dX9_readNumber_61 : decode cX9_readNumber 61 = .ok (.iload_n 3, 1) := by decide +kernel
theorem dX9_readNumber_62 : decode cX9_readNumber 62 = .ok (.iconst 2, 1) := by decide +kernel
theorem dX9_readNumber_63 : decode cX9_readNumber 63 = .ok (.if_icmp .le 9, 3) := by decide +kernel
theorem dX9_readNumber_66 : decode cX9_readNumber 66 = .ok (.aload_n 0, 1) := by decide +kernel
theorem dX9_readNumber_67 : decode cX9_readNumber 67 = .ok (.iconst 1, 1) := by decide +kernel
theorem dX9_readNumber_68 : decode cX9_readNumber 68 = .ok (.invokevirtual 54, 3) := by decide +kernel
theorem dX9_readNumber_71 : decode cX9_readNumber 71 = .ok (.ireturn, 1) := by decide +kernel
theorem dX9_readNumber_72 : decode cX9_readNumber 72 = .ok (.aload_n 0, 1) := by decide +kernel
theorem dX9_readNumber_73 : decode cX9_readNumber 73 = .ok (.getfield 45, 3) := by decide +kernel
theorem dX9_readNumber_76 : decode cX9_readNumber 76 = .ok (.iload_n 1, 1) := by decide +kernel
theorem dX9_readNumber_77 : decode cX9_readNumber 77 = .ok (.if_icmp .lt 11, 3) := by decide +kernel
theorem dX9_readNumber_80 : decode cX9_readNumber 80 = .ok (.aload_n 0, 1) := by decide +kernel
theorem dX9_readNumber_81 : decode cX9_readNumber 81 = .ok (.getfield 45, 3) := by decide +kernel
theorem dX9_readNumber_84 : decode cX9_readNumber 84 = .ok (.iload_n 2, 1) := by decide +kernel
theorem dX9_readNumber_85 : decode cX9_readNumber 85 = .ok (.if_icmp .le 9, 3) := by decide +kernel
theorem dX9_readNumber_88 : decode cX9_readNumber 88 = .ok (.aload_n 0, 1) := by decide +kernel
theorem dX9_readNumber_89 : decode cX9_readNumber 89 = .ok (.iconst 2, 1) := by decide +kernel
theorem dX9_readNumber_90 : decode cX9_readNumber 90 = .ok (.invokevirtual 54, 3) := by decide +kernel
theorem dX9_readNumber_93 : decode cX9_readNumber 93 = .ok (.ireturn, 1) := by decide +kernel
theorem dX9_readNumber_94 : decode cX9_readNumber 94 = .ok (.aload_n 0, 1) := by decide +kernel
theorem dX9_readNumber_95 : decode cX9_readNumber 95 = .ok (.dup, 1) := by decide +kernel
theorem dX9_readNumber_96 : decode cX9_readNumber 96 = .ok (.getfield 19, 3) := by decide +kernel
theorem dX9_readNumber_99 : decode cX9_readNumber 99 = .ok (.iload_n 3, 1) := by decide +kernel
theorem dX9_readNumber_100 : decode cX9_readNumber 100 = .ok (.iadd, 1) := by decide +kernel
theorem dX9_readNumber_101 : decode cX9_readNumber 101 = .ok (.putfield 19, 3) := by decide +kernel
theorem dX9_readNumber_104 : decode cX9_readNumber 104 = .ok (.iconst 1, 1) := by decide +kernel
theorem dX9_readNumber_105 : decode cX9_readNumber 105 = .ok (.ireturn, 1) := by decide +kernel
theorem dX9_isFigure_0 : decode cX9_isFigure 0 = .ok (.iload_n 1, 1) := by decide +kernel
theorem dX9_isFigure_1 : decode cX9_isFigure 1 = .ok (.aload_n 0, 1) := by decide +kernel
theorem dX9_isFigure_2 : decode cX9_isFigure 2 = .ok (.getfield 15, 3) := by decide +kernel
theorem dX9_isFigure_5 : decode cX9_isFigure 5 = .ok (.if_icmp .ge 29, 3) := by decide +kernel
theorem dX9_isFigure_8 : decode cX9_isFigure 8 = .ok (.aload_n 0, 1) := by decide +kernel
theorem dX9_isFigure_9 : decode cX9_isFigure 9 = .ok (.getfield 11, 3) := by decide +kernel
theorem dX9_isFigure_12 : decode cX9_isFigure 12 = .ok (.iload_n 1, 1) := by decide +kernel
theorem dX9_isFigure_13 : decode cX9_isFigure 13 = .ok (.iaload, 1) := by decide +kernel
theorem dX9_isFigure_14 : decode cX9_isFigure 14 = .ok (.bipush 48, 2) := by decide +kernel
theorem dX9_isFigure_16 : decode cX9_isFigure 16 = .ok (.if_icmp .lt 18, 3) := by decide +kernel
theorem dX9_isFigure_19 : decode cX9_isFigure 19 = .ok (.aload_n 0, 1) := by decide +kernel
theorem dX9_isFigure_20 : decode cX9_isFigure 20 = .ok (.getfield 11, 3) := by decide +kernel
theorem dX9_isFigure_23 : decode cX9_isFigure 23 = .ok (.iload_n 1, 1) := by decide +kernel
theorem dX9_isFigure_24 : decode cX9_isFigure 24 = .ok (.iaload, 1) := by decide +kernel
theorem dX9_isFigure_25 : decode cX9_isFigure 25 = .ok (.bipush 57, 2) := by decide +kernel
theorem dX9_isFigure_27 : decode cX9_isFigure 27 = .ok (.if_icmp .gt 7, 3) := by decide +kernel
theorem dX9_isFigure_30 : decode cX9_isFigure 30 = .ok (.iconst 1, 1) := by decide +kernel
theorem dX9_isFigure_31 : decode cX9_isFigure 31 = .ok (.goto 4, 3) := by decide +kernel
theorem dX9_isFigure_34 : decode cX9_isFigure 34 = .ok (.iconst 0, 1) := by decide +kernel
theorem dX9_isFigure_35 : decode cX9_isFigure 35 = .ok (.ireturn, 1) := by decide +kernel
theorem dX9_isFault_0 : decode cX9_isFault 0 = .ok (.aload_n 0, 1) := by decide +kernel
theorem dX9_isFault_1 : decode cX9_isFault 1 = .ok (.iload_n 1, 1) := by decide +kernel
theorem dX9_isFault_2 : decode cX9_isFault 2 = .ok (.putfield 84, 3) := by decide +kernel
theorem dX9_isFault_5 : decode cX9_isFault 5 = .ok (.aload_n 0, 1) := by decide +kernel
theorem dX9_isFault_6 : decode cX9_isFault 6 = .ok (.aload_n 0, 1) := by decide +kernel
theorem dX9_isFault_7 : decode cX9_isFault 7 = .ok (.getfield 19, 3) := by decide +kernel
theorem dX9_isFault_10 : decode cX9_isFault 10 = .ok (.putfield 87, 3) := by decide +kernel
theorem dX9_isFault_13 : decode cX9_isFault 13 = .ok (.iconst 0, 1) := by decide +kernel
theorem dX9_isFault_14 : decode cX9_isFault 14 = .ok (.ireturn, 1) := by decide +kernel
theorem dX10_init_0 : decode cX10_init 0 = .ok (.aload_n 0, 1) := by decide +kernel
theorem dX10_init_1 : decode cX10_init 1 = .ok (.iload_n 1, 1) := by decide +kernel
theorem dX10_init_2 : decode cX10_init 2 = .ok (.iload_n 2, 1) := by decide +kernel
theorem dX10_init_3 : decode cX10_init 3 = .ok (.invokespecial 3, 3) := by decide +kernel
theorem dX10_init_6 : decode cX10_init 6 = .ok (.return_, 1) := by decide +kernel
theorem dX10_sort_0 : decode cX10_sort 0 = .ok (.iconst 1, 1) := by decide +kernel
theorem dX10_sort_1 : decode cX10_sort 1 = .ok (.ireturn, 1) := by decide +kernel
theorem dX10_padding_0 : decode cX10_padding 0 = .ok (.iload_n 1, 1) := by decide +kernel
theorem dX10_padding_1 : decode cX10_padding 1 = .ok (.ireturn, 1) := by decide +kernel
theorem dX10_size_0 : decode cX10_size 0 = .ok (.aload_n 1, 1) := by decide +kernel
theorem dX10_size_1 : decode cX10_size 1 = .ok (.bipush 11, 2) := by decide +kernel
theorem dX10_size_3 : decode cX10_size 3 = .ok (.invokevirtual 9, 3) := by decide +kernel
theorem dX10_size_6 : decode cX10_size 6 = .ok (.aload_n 0, 1) := by decide +kernel
theorem dX10_size_7 : decode cX10_size 7 = .ok (.aload_n 1, 1) := by decide +kernel
theorem dX10_size_8 : decode cX10_size 8 = .ok (.invokespecial 15, 3) := by decide +kernel
theorem dX10_size_11 : decode cX10_size 11 = .ok (.aload_n 0, 1) := by decide +kernel
theorem dX10_size_12 : decode cX10_size 12 = .ok (.aload_n 1, 1) := by decide +kernel
theorem dX10_size_13 : decode cX10_size 13 = .ok (.invokevirtual 19, 3) := by decide +kernel
theorem dX10_size_16 : decode cX10_size 16 = .ok (.iadd, 1) := by decide +kernel
theorem dX10_size_17 : decode cX10_size 17 = .ok (.ireturn, 1) := by decide +kernel
theorem dX10_mark_0 : decode cX10_mark 0 = .ok (.aload_n 1, 1) := by decide +kernel
theorem dX10_mark_1 : decode cX10_mark 1 = .ok (.bipush 21, 2) := by decide +kernel
theorem dX10_mark_3 : decode cX10_mark 3 = .ok (.invokevirtual 9, 3) := by decide +kernel
theorem dX10_mark_6 : decode cX10_mark 6 = .ok (.aload_n 0, 1) := by decide +kernel
theorem dX10_mark_7 : decode cX10_mark 7 = .ok (.aload_n 1, 1) := by decide +kernel
theorem dX10_mark_8 : decode cX10_mark 8 = .ok (.invokespecial 24, 3) := by decide +kernel
theorem dX10_mark_11 : decode cX10_mark 11 = .ok (.aload_n 1, 1) := by decide +kernel
theorem dX10_mark_12 : decode cX10_mark 12 = .ok (.getfield 25, 3) := by decide +kernel
theorem dX10_mark_15 : decode cX10_mark 15 = .ok (.iadd, 1) := by decide +kernel
theorem dX10_mark_16 : decode cX10_mark 16 = .ok (.ireturn, 1) := by decide +kernel
theorem dX11_init_0 : decode cX11_init 0 = .ok (.aload_n 0, 1) := by decide +kernel
theorem dX11_init_1 : decode cX11_init 1 = .ok (.invokespecial 1, 3) := by decide +kernel
theorem dX11_init_4 : decode cX11_init 4 = .ok (.aload_n 0, 1) := by decide +kernel
theorem dX11_init_5 : decode cX11_init 5 = .ok (.new 7, 3) := by decide +kernel
theorem dX11_init_8 : decode cX11_init 8 = .ok (.dup, 1) := by decide +kernel
theorem dX11_init_9 : decode cX11_init 9 = .ok (.invokespecial 9, 3) := by decide +kernel
theorem dX11_init_12 : decode cX11_init 12 = .ok (.putfield 10, 3) := by decide +kernel
theorem dX11_init_15 : decode cX11_init 15 = .ok (.aload_n 0, 1) := by decide +kernel
theorem dX11_init_16 : decode cX11_init 16 = .ok (.new 16, 3) := by decide +kernel
theorem dX11_init_19 : decode cX11_init 19 = .ok (.dup, 1) := by decide +kernel
theorem dX11_init_20 : decode cX11_init 20 = .ok (.invokespecial 18, 3) := by decide +kernel
theorem dX11_init_23 : decode cX11_init 23 = .ok (.putfield 19, 3) := by decide +kernel
theorem dX11_init_26 : decode cX11_init 26 = .ok (.aload_n 0, 1) := by decide +kernel
theorem dX11_init_27 : decode cX11_init 27 = .ok (.new 23, 3) := by decide +kernel
theorem dX11_init_30 : decode cX11_init 30 = .ok (.dup, 1) := by decide +kernel
theorem dX11_init_31 : decode cX11_init 31 = .ok (.invokespecial 25, 3) := by decide +kernel
theorem dX11_init_34 : decode cX11_init 34 = .ok (.putfield 26, 3) := by decide +kernel
theorem dX11_init_37 : decode cX11_init 37 = .ok (.aload_n 0, 1) := by decide +kernel
theorem dX11_init_38 : decode cX11_init 38 = .ok (.new 23, 3) := by decide +kernel
theorem dX11_init_41 : decode cX11_init 41 = .ok (.dup, 1) := by decide +kernel
theorem dX11_init_42 : decode cX11_init 42 = .ok (.invokespecial 25, 3) := by decide +kernel
theorem dX11_init_45 : decode cX11_init 45 = .ok (.putfield 30, 3) := by decide +kernel
theorem dX11_init_48 : decode cX11_init 48 = .ok (.aload_n 0, 1) := by decide +kernel
theorem dX11_init_49 : decode cX11_init 49 = .ok (.new 33, 3) := by decide +kernel
theorem dX11_init_52 : decode cX11_init 52 = .ok (.dup, 1) := by decide +kernel
theorem dX11_init_53 : decode cX11_init 53 = .ok (.invokespecial 35, 3) := by decide +kernel
theorem dX11_init_56 : decode cX11_init 56 = .ok (.putfield 36, 3) := by decide +kernel
theorem dX11_init_59 : decode cX11_init 59 = .ok (.aload_n 0, 1) := by decide +kernel
theorem dX11_init_60 : decode cX11_init 60 = .ok (.new 40, 3) := by decide +kernel
theorem dX11_init_63 : decode cX11_init 63 = .ok (.dup, 1) := by decide +kernel
theorem dX11_init_64 : decode cX11_init 64 = .ok (.invokespecial 42, 3) := by decide +kernel
theorem dX11_init_67 : decode cX11_init 67 = .ok (.putfield 43, 3) := by decide +kernel
theorem dX11_init_70 : decode cX11_init 70 = .ok (.aload_n 0, 1) := by decide +kernel
theorem dX11_init_71 : decode cX11_init 71 = .ok (.iconst 2, 1) := by decide +kernel
theorem dX11_init_72 : decode cX11_init 72 = .ok (.anewarray 23, 3) := by decide +kernel
theorem dX11_init_75 : decode cX11_init 75 = .ok (.putfield 47, 3) := by decide +kernel
theorem dX11_init_78 : decode cX11_init 78 = .ok (.aload_n 0, 1) := by decide +kernel
theorem dX11_init_79 : decode cX11_init 79 = .ok (.bipush 24, 2) := by decide +kernel
theorem dX11_init_81 : decode cX11_init 81 = .ok (.anewarray 23, 3) := by decide +kernel
theorem dX11_init_84 : decode cX11_init 84 = .ok (.putfield 51, 3) := by decide +kernel
theorem dX11_init_87 : decode cX11_init 87 = .ok (.return_, 1) := by decide +kernel
theorem dX11_row_0 : decode cX11_row 0 = .ok (.iload_n 1, 1) := by decide +kernel
theorem dX11_row_1 : decode cX11_row 1 = .ok (.invokestatic 54, 3) := by decide +kernel
theorem dX11_row_4 : decode cX11_row 4 = .ok (.ifCond .eq 16, 3) := by decide +kernel
theorem dX11_row_7 : decode cX11_row 7 = .ok (.iload_n 2, 1) := by decide +kernel
theorem dX11_row_8 : decode cX11_row 8 = .ok (.invokestatic 58, 3) := by decide +kernel
theorem dX11_row_11 : decode cX11_row 11 = .ok (.ifCond .eq 9, 3) := by decide +kernel
theorem dX11_row_14 : decode cX11_row 14 = .ok (.iload_n 3, 1) := by decide +kernel
theorem dX11_row_15 : decode cX11_row 15 = .ok (.bipush 40, 2) := by decide +kernel
theorem dX11_row_17 : decode cX11_row 17 = .ok (.if_icmp .le 6, 3) := by decide +kernel
theorem dX11_row_20 : decode cX11_row 20 = .ok (.ldc 61, 2) := by decide +kernel
theorem dX11_row_22 : decode cX11_row 22 = .ok (.ireturn, 1) := by decide +kernel
theorem dX11_row_23 : decode cX11_row 23 = .ok (.iload_n 3, 1) := by decide +kernel
theorem dX11_row_24 : decode cX11_row 24 = .ok (.ifCond .ge 9, 3) := by decide +kernel
theorem dX11_row_27 : decode cX11_row 27 = .ok (.aload_n 0, 1) := by decide +kernel
theorem dX11_row_28 : decode cX11_row 28 = .ok (.iconst 4, 1) := by decide +kernel
theorem dX11_row_29 : decode cX11_row 29 = .ok (.invokevirtual 62, 3) := by decide +kernel
theorem dX11_row_32 : decode cX11_row 32 = .ok (.ireturn, 1) := by decide +kernel
theorem dX11_row_33 : decode cX11_row 33 = .ok (.aload_n 0, 1) := by decide +kernel
theorem dX11_row_34 : decode cX11_row 34 = .ok (.getfield 10, 3) := by decide +kernel
theorem dX11_row_37 : decode cX11_row 37 = .ok (.iload_n 1, 1) := by decide +kernel
theorem dX11_row_38 : decode cX11_row 38 = .ok (.iload_n 2, 1) := by decide +kernel
theorem dX11_row_39 : decode cX11_row 39 = .ok (.iload_n 3, 1) := by decide +kernel
theorem dX11_row_40 : decode cX11_row 40 = .ok (.invokevirtual 66, 3) := by decide +kernel
theorem dX11_row_43 : decode cX11_row 43 = .ok (.aload_n 0, 1) := by decide +kernel
theorem dX11_row_44 : decode cX11_row 44 = .ok (.iload_n 3, 1) := by decide +kernel
theorem dX11_row_45 : decode cX11_row 45 = .ok (.invokevirtual 70, 3) := by decide +kernel
theorem dX11_row_48 : decode cX11_row 48 = .ok (.ireturn, 1) := by decide +kernel
theorem dX11_set_0 : decode cX11_set 0 = .ok (.iload_n 1, 1) := by decide +kernel
theorem dX11_set_1 : decode cX11_set 1 = .ok (.invokestatic 54, 3) := by decide +kernel
theorem dX11_set_4 : decode cX11_set 4 = .ok (.ifCond .ne 6, 3) := by decide +kernel
theorem dX11_set_7 : decode cX11_set 7 = .ok (.ldc 61, 2) := by decide +kernel
theorem dX11_set_9 : decode cX11_set 9 = .ok (.ireturn, 1) := by decide +kernel
theorem dX11_set_10 : decode cX11_set 10 = .ok (.aload_n 0, 1) := by decide +kernel
theorem dX11_set_11 : decode cX11_set 11 = .ok (.getfield 10, 3) := by decide +kernel
theorem dX11_set_14 : decode cX11_set 14 = .ok (.iload_n 1, 1) := by decide +kernel
theorem dX11_set_15 : decode cX11_set 15 = .ok (.iload_n 2, 1) := by decide +kernel
theorem dX11_set_16 : decode cX11_set 16 = .ok (.iconst 1, 1) := by decide +kernel
theorem dX11_set_17 : decode cX11_set 17 = .ok (.invokevirtual 73, 3) := by decide +kernel
theorem dX11_set_20 : decode cX11_set 20 = .ok (.istore 4, 2) := by decide +kernel
theorem dX11_set_22 : decode cX11_set 22 = .ok (.iload 4, 2) := by decide +kernel
theorem dX11_set_24 : decode cX11_set 24 = .ok (.ifCond .eq 10, 3) := by decide +kernel
theorem dX11_set_27 : decode cX11_set 27 = .ok (.aload_n 0, 1) := by decide +kernel
theorem dX11_set_28 : decode cX11_set 28 = .ok (.iload 4, 2) := by decide +kernel
theorem dX11_set_30 : decode cX11_set 30 = .ok (.invokevirtual 62, 3) := by decide +kernel
theorem dX11_set_33 : decode cX11_set 33 = .ok (.ireturn, 1) := by decide +kernel
theorem dX11_set_34 : decode cX11_set 34 = .ok (.aload_n 0, 1) := by decide +kernel
theorem dX11_set_35 : decode cX11_set 35 = .ok (.aload_n 0, 1) := by decide +kernel
theorem dX11_set_36 : decode cX11_set 36 = .ok (.getfield 10, 3) := by decide +kernel
theorem dX11_set_39 : decode cX11_set 39 = .ok (.iload_n 1, 1) := by decide +kernel
theorem dX11_set_40 : decode cX11_set 40 = .ok (.iload_n 2, 1) := by decide +kernel
theorem dX11_set_41 : decode cX11_set 41 = .ok (.iload_n 3, 1) := by decide +kernel
theorem dX11_set_42 : decode cX11_set 42 = .ok (.invokevirtual 77, 3) := by decide +kernel
theorem dX11_set_45 : decode cX11_set 45 = .ok (.invokevirtual 70, 3) := by decide +kernel
theorem dX11_set_48 : decode cX11_set 48 = .ok (.ireturn, 1) := by decide +kernel
theorem dX11_copy_0 : decode cX11_copy 0 = .ok (.iload_n 1, 1) := by decide +kernel
theorem dX11_copy_1 : decode cX11_copy 1 = .ok (.invokestatic 54, 3) := by decide +kernel
theorem dX11_copy_4 : decode cX11_copy 4 = .ok (.ifCond .eq 10, 3) := by decide +kernel
theorem dX11_copy_7 : decode cX11_copy 7 = .ok (.iload_n 3, 1) := by decide +kernel
theorem dX11_copy_8 : decode cX11_copy 8 = .ok (.invokestatic 54, 3) := by decide +kernel
theorem dX11_copy_11 : decode cX11_copy 11 = .ok (.ifCond .ne 6, 3) := by decide +kernel
theorem dX11_copy_14 : decode cX11_copy 14 = .ok (.ldc 61, 2) := by decide +kernel
theorem dX11_copy_16 : decode cX11_copy 16 = .ok (.ireturn, 1) := by decide +kernel
theorem dX11_copy_17 : decode cX11_copy 17 = .ok (.aload_n 0, 1) := by decide +kernel
theorem dX11_copy_18 : decode cX11_copy 18 = .ok (.getfield 10, 3) := by decide +kernel
theorem dX11_copy_21 : decode cX11_copy 21 = .ok (.iload_n 1, 1) := by decide +kernel
theorem dX11_copy_22 : decode cX11_copy 22 = .ok (.iload_n 2, 1) := by decide +kernel
theorem dX11_copy_23 : decode cX11_copy 23 = .ok (.iload_n 3, 1) := by decide +kernel
theorem dX11_copy_24 : decode cX11_copy 24 = .ok (.iload 4, 2) := by decide +kernel
theorem dX11_copy_26 : decode cX11_copy 26 = .ok (.iload 5, 2) := by decide +kernel
theorem dX11_copy_28 : decode cX11_copy 28 = .ok (.invokevirtual 80, 3) := by decide +kernel
theorem dX11_copy_31 : decode cX11_copy 31 = .ok (.istore 6, 2) := by decide +kernel
theorem dX11_copy_33 : decode cX11_copy 33 = .ok (.iload 6, 2) := by decide +kernel
theorem dX11_copy_35 : decode cX11_copy 35 = .ok (.ifCond .eq 10, 3) := by decide +kernel
theorem dX11_copy_38 : decode cX11_copy 38 = .ok (.aload_n 0, 1) := by decide +kernel
theorem dX11_copy_39 : decode cX11_copy 39 = .ok (.iload 6, 2) := by decide +kernel
theorem dX11_copy_41 : decode cX11_copy 41 = .ok (.invokevirtual 62, 3) := by decide +kernel
theorem dX11_copy_44 : decode cX11_copy 44 = .ok (.ireturn, 1) := by decide +kernel
theorem dX11_copy_45 : decode cX11_copy 45 = .ok (.aload_n 0, 1) := by decide +kernel
theorem dX11_copy_46 : decode cX11_copy 46 = .ok (.getfield 10, 3) := by decide +kernel
theorem dX11_copy_49 : decode cX11_copy 49 = .ok (.iload_n 1, 1) := by decide +kernel
theorem dX11_copy_50 : decode cX11_copy 50 = .ok (.iload_n 2, 1) := by decide +kernel
theorem dX11_copy_51 : decode cX11_copy 51 = .ok (.iload_n 3, 1) := by decide +kernel
theorem dX11_copy_52 : decode cX11_copy 52 = .ok (.iload 4, 2) := by decide +kernel
theorem dX11_copy_54 : decode cX11_copy 54 = .ok (.iload 5, 2) := by decide +kernel
theorem dX11_copy_56 : decode cX11_copy 56 = .ok (.invokevirtual 84, 3) := by decide +kernel
theorem dX11_copy_59 : decode cX11_copy 59 = .ok (.aload_n 0, 1) := by decide +kernel
theorem dX11_copy_60 : decode cX11_copy 60 = .ok (.iload 5, 2) := by decide +kernel
theorem dX11_copy_62 : decode cX11_copy 62 = .ok (.invokevirtual 70, 3) := by decide +kernel
theorem dX11_copy_65 : decode cX11_copy 65 = .ok (.ireturn, 1) := by decide +kernel
theorem dX11_drop_0 : decode cX11_drop 0 = .ok (.iload_n 1, 1) := by decide +kernel
theorem dX11_drop_1 : decode cX11_drop 1 = .ok (.invokestatic 54, 3) := by decide +kernel
theorem dX11_drop_4 : decode cX11_drop 4 = .ok (.ifCond .ne 6, 3) := by decide +kernel
theorem dX11_drop_7 : decode cX11_drop 7 = .ok (.ldc 61, 2) := by decide +kernel
theorem dX11_drop_9 : decode cX11_drop 9 = .ok (.ireturn, 1) := by decide +kernel
theorem dX11_drop_10 : decode cX11_drop 10 = .ok (.aload_n 0, 1) := by decide +kernel
theorem dX11_drop_11 : decode cX11_drop 11 = .ok (.getfield 10, 3) := by decide +kernel
theorem dX11_drop_14 : decode cX11_drop 14 = .ok (.iload_n 1, 1) := by decide +kernel
theorem dX11_drop_15 : decode cX11_drop 15 = .ok (.invokevirtual 88, 3) := by decide +kernel
theorem dX11_drop_18 : decode cX11_drop 18 = .ok (.ifCond .eq 9, 3) := by decide +kernel
theorem dX11_drop_21 : decode cX11_drop 21 = .ok (.aload_n 0, 1) := by decide +kernel
theorem dX11_drop_22 : decode cX11_drop 22 = .ok (.iconst 1, 1) := by decide +kernel
theorem dX11_drop_23 : decode cX11_drop 23 = .ok (.invokevirtual 62, 3) := by decide +kernel
theorem dX11_drop_26 : decode cX11_drop 26 = .ok (.ireturn, 1) := by decide +kernel
theorem dX11_drop_27 : decode cX11_drop 27 = .ok (.aload_n 0, 1) := by decide +kernel
theorem dX11_drop_28 : decode cX11_drop 28 = .ok (.aload_n 0, 1) := by decide +kernel
theorem dX11_drop_29 : decode cX11_drop 29 = .ok (.getfield 10, 3) := by decide +kernel
theorem dX11_drop_32 : decode cX11_drop 32 = .ok (.iload_n 1, 1) := by decide +kernel
theorem dX11_drop_33 : decode cX11_drop 33 = .ok (.invokevirtual 91, 3) := by decide +kernel
theorem dX11_drop_36 : decode cX11_drop 36 = .ok (.invokevirtual 70, 3) := by decide +kernel
theorem dX11_drop_39 : decode cX11_drop 39 = .ok (.ireturn, 1) := by decide +kernel
theorem dX11_feed_0 : decode cX11_feed 0 = .ok (.iload_n 1, 1) := by decide +kernel
theorem dX11_feed_1 : decode cX11_feed 1 = .ok (.ifCond .lt 10, 3) := by decide +kernel
theorem dX11_feed_4 : decode cX11_feed 4 = .ok (.iload_n 1, 1) := by decide +kernel
theorem dX11_feed_5 : decode cX11_feed 5 = .ok (.sipush 255, 3) := by decide +kernel
theorem dX11_feed_8 : decode cX11_feed 8 = .ok (.if_icmp .le 6, 3) := by decide +kernel
theorem dX11_feed_11 : decode cX11_feed 11 = .ok (.ldc 61, 2) := by decide +kernel
theorem dX11_feed_13 : decode cX11_feed 13 = .ok (.ireturn, 1) := by decide +kernel
theorem dX11_feed_14 : decode cX11_feed 14 = .ok (.aload_n 0, 1) := by decide +kernel
theorem dX11_feed_15 : decode cX11_feed 15 = .ok (.getfield 19, 3) := by decide +kernel
theorem dX11_feed_18 : decode cX11_feed 18 = .ok (.invokevirtual 94, 3) := by decide +kernel
theorem dX11_feed_21 : decode cX11_feed 21 = .ok (.ifCond .eq 6, 3) := by decide +kernel
theorem dX11_feed_24 : decode cX11_feed 24 = .ok (.ldc 98, 2) := by decide +kernel
theorem dX11_feed_26 : decode cX11_feed 26 = .ok (.ireturn, 1) := by decide +kernel
theorem dX11_feed_27 : decode cX11_feed 27 = .ok (.aload_n 0, 1) := by decide +kernel
theorem dX11_feed_28 : decode cX11_feed 28 = .ok (.getfield 19, 3) := by decide +kernel
theorem dX11_feed_31 : decode cX11_feed 31 = .ok (.iload_n 1, 1) := by decide +kernel
theorem dX11_feed_32 : decode cX11_feed 32 = .ok (.invokevirtual 99, 3) := by decide +kernel
theorem dX11_feed_35 : decode cX11_feed 35 = .ok (.ireturn, 1) := by decide +kernel
theorem dX11_street_0 : decode cX11_street 0 = .ok (.aload_n 0, 1) := by decide +kernel
theorem dX11_street_1 : decode cX11_street 1 = .ok (.getfield 19, 3) := by decide +kernel
theorem dX11_street_4 : decode cX11_street 4 = .ok (.aload_n 0, 1) := by decide +kernel
theorem dX11_street_5 : decode cX11_street 5 = .ok (.getfield 30, 3) := by decide +kernel
theorem dX11_street_8 : decode cX11_street 8 = .ok (.invokevirtual 102, 3) := by decide +kernel
theorem dX11_street_11 : decode cX11_street 11 = .ok (.istore_n 1, 1) := by decide +kernel
theorem dX11_street_12 : decode cX11_street 12 = .ok (.aload_n 0, 1) := by decide +kernel
theorem dX11_street_13 : decode cX11_street 13 = .ok (.getfield 19, 3) := by decide +kernel
theorem dX11_street_16 : decode cX11_street 16 = .ok (.iconst 0, 1) := by decide +kernel
theorem dX11_street_17 : decode cX11_street 17 = .ok (.putfield 106, 3) := by decide +kernel
theorem dX11_street_20 : decode cX11_street 20 = .ok (.iload_n 1, 1) := by decide +kernel
theorem dX11_street_21 : decode cX11_street 21 = .ok (.ifCond .ne 25, 3) := by decide +kernel
theorem dX11_street_24 : decode cX11_street 24 = .ok (.aload_n 0, 1) := by decide +kernel
theorem dX11_street_25 : decode cX11_street 25 = .ok (.aload_n 0, 1) := by decide +kernel
theorem dX11_street_26 : decode cX11_street 26 = .ok (.getfield 19, 3) := by decide +kernel
theorem dX11_street_29 : decode cX11_street 29 = .ok (.getfield 110, 3) := by decide +kernel
theorem dX11_street_32 : decode cX11_street 32 = .ok (.putfield 113, 3) := by decide +kernel
theorem dX11_street_35 : decode cX11_street 35 = .ok (.ldc 116, 2) := by decide +kernel
theorem dX11_street_37 : decode cX11_street 37 = .ok (.aload_n 0, 1) := by decide +kernel
theorem dX11_street_38 : decode cX11_street 38 = .ok (.getfield 19, 3) := by decide +kernel
theorem dX11_street_41 : decode cX11_street 41 = .ok (.getfield 117, 3) := by decide +kernel
theorem dX11_street_44 : decode cX11_street 44 = .ok (.isub, 1) := by decide +kernel
theorem dX11_street_45 : decode cX11_street 45 = .ok (.ireturn, 1) := by decide +kernel
theorem dX11_street_46 : decode cX11_street 46 = .ok (.aload_n 0, 1) := by decide +kernel
theorem dX11_street_47 : decode cX11_street 47 = .ok (.getfield 26, 3) := by decide +kernel
theorem dX11_street_50 : decode cX11_street 50 = .ok (.aload_n 0, 1) := by decide +kernel
theorem dX11_street_51 : decode cX11_street 51 = .ok (.getfield 30, 3) := by decide +kernel
theorem dX11_street_54 : decode cX11_street 54 = .ok (.invokevirtual 120, 3) := by decide +kernel
theorem dX11_street_57 : decode cX11_street 57 = .ok (.aload_n 0, 1) := by decide +kernel
theorem dX11_street_58 : decode cX11_street 58 = .ok (.iconst 0, 1) := by decide +kernel
theorem dX11_street_59 : decode cX11_street 59 = .ok (.putfield 124, 3) := by decide +kernel
theorem dX11_street_62 : decode cX11_street 62 = .ok (.aload_n 0, 1) := by decide +kernel
theorem dX11_street_63 : decode cX11_street 63 = .ok (.getfield 26, 3) := by decide +kernel
theorem dX11_street_66 : decode cX11_street 66 = .ok (.getfield 127, 3) := by decide +kernel
theorem dX11_street_69 : decode cX11_street 69 = .ok (.ireturn, 1) := by decide +kernel
theorem dX11_fault_0 : decode cX11_fault 0 = .ok (.aload_n 0, 1) := by decide +kernel
theorem dX11_fault_1 : decode cX11_fault 1 = .ok (.getfield 113, 3) := by decide +kernel
theorem dX11_fault_4 : decode cX11_fault 4 = .ok (.ireturn, 1) := by decide +kernel
theorem dX11_undo_0 : decode cX11_undo 0 = .ok (.aload_n 0, 1) := by decide +kernel
theorem dX11_undo_1 : decode cX11_undo 1 = .ok (.getfield 124, 3) := by decide +kernel
theorem dX11_undo_4 : decode cX11_undo 4 = .ok (.ifCond .le 15, 3) := by decide +kernel
theorem dX11_undo_7 : decode cX11_undo 7 = .ok (.aload_n 0, 1) := by decide +kernel
theorem dX11_undo_8 : decode cX11_undo 8 = .ok (.getfield 51, 3) := by decide +kernel
theorem dX11_undo_11 : decode cX11_undo 11 = .ok (.aload_n 0, 1) := by decide +kernel
theorem dX11_undo_12 : decode cX11_undo 12 = .ok (.getfield 130, 3) := by decide +kernel
theorem dX11_undo_15 : decode cX11_undo 15 = .ok (.aaload, 1) := by decide +kernel
theorem dX11_undo_16 : decode cX11_undo 16 = .ok (.goto 4, 3) := by decide +kernel
theorem dX11_undo_19 : decode cX11_undo 19 = .ok (.aconst_null, 1) := by decide +kernel
theorem dX11_undo_20 : decode cX11_undo 20 = .ok (.astore_n 1, 1) := by decide +kernel
theorem dX11_undo_21 : decode cX11_undo 21 = .ok (.aload_n 1, 1) := by decide +kernel
theorem dX11_undo_22 : decode cX11_undo 22 = .ok (.ifnonnull 6, 3) := by decide +kernel
theorem dX11_undo_25 : decode cX11_undo 25 = .ok (.ldc 133, 2) := by decide +kernel
theorem dX11_undo_27 : decode cX11_undo 27 = .ok (.ireturn, 1) := by decide +kernel
theorem dX11_undo_28 : decode cX11_undo 28 = .ok (.aload_n 0, 1) := by decide +kernel
theorem dX11_undo_29 : decode cX11_undo 29 = .ok (.getfield 26, 3) := by decide +kernel
theorem dX11_undo_32 : decode cX11_undo 32 = .ok (.aload_n 1, 1) := by decide +kernel
theorem dX11_undo_33 : decode cX11_undo 33 = .ok (.invokevirtual 120, 3) := by decide +kernel
theorem dX11_undo_36 : decode cX11_undo 36 = .ok (.aload_n 0, 1) := by decide +kernel
theorem dX11_undo_37 : decode cX11_undo 37 = .ok (.aload_n 0, 1) := by decide +kernel
theorem dX11_undo_38 : decode cX11_undo 38 = .ok (.getfield 130, 3) := by decide +kernel
theorem dX11_undo_41 : decode cX11_undo 41 = .ok (.bipush 24, 2) := by decide +kernel
theorem dX11_undo_43 : decode cX11_undo 43 = .ok (.iadd, 1) := by decide +kernel
theorem dX11_undo_44 : decode cX11_undo 44 = .ok (.iconst 1, 1) := by decide +kernel
theorem dX11_undo_45 : decode cX11_undo 45 = .ok (.isub, 1) := by decide +kernel
theorem dX11_undo_46 : decode cX11_undo 46 = .ok (.bipush 24, 2) := by decide +kernel
theorem dX11_undo_48 : decode cX11_undo 48 = .ok (.irem, 1) := by decide +kernel
theorem dX11_undo_49 : decode cX11_undo 49 = .ok (.putfield 130, 3) := by decide +kernel
theorem dX11_undo_52 : decode cX11_undo 52 = .ok (.aload_n 0, 1) := by decide +kernel
theorem dX11_undo_53 : decode cX11_undo 53 = .ok (.dup, 1) := by decide +kernel
theorem dX11_undo_54 : decode cX11_undo 54 = .ok (.getfield 124, 3) := by decide +kernel
theorem dX11_undo_57 : decode cX11_undo 57 = .ok (.iconst 1, 1) := by decide +kernel
theorem dX11_undo_58 : decode cX11_undo 58 = .ok (.isub, 1) := by decide +kernel
theorem dX11_undo_59 : decode cX11_undo 59 = .ok (.putfield 124, 3) := by decide +kernel
theorem dX11_undo_62 : decode cX11_undo 62 = .ok (.aload_n 0, 1) := by decide +kernel
theorem dX11_undo_63 : decode cX11_undo 63 = .ok (.getfield 124, 3) := by decide +kernel
theorem dX11_undo_66 : decode cX11_undo 66 = .ok (.ireturn, 1) := by decide +kernel
theorem dX11_tell_0 : decode cX11_tell 0 = .ok (.aload_n 0, 1) := by decide +kernel
theorem dX11_tell_1 : decode cX11_tell 1 = .ok (.getfield 26, 3) := by decide +kernel
theorem dX11_tell_4 : decode cX11_tell 4 = .ok (.iload_n 1, 1) := by decide +kernel
theorem dX11_tell_5 : decode cX11_tell 5 = .ok (.invokevirtual 134, 3) := by decide +kernel
theorem dX11_tell_8 : decode cX11_tell 8 = .ok (.astore 5, 2) := by decide +kernel
theorem dX11_tell_10 : decode cX11_tell 10 = .ok (.aload 5, 2) := by decide +kernel
theorem dX11_tell_12 : decode cX11_tell 12 = .ok (.ifnull 23, 3) := by decide +kernel
theorem dX11_tell_15 : decode cX11_tell 15 = .ok (.aload_n 0, 1) := by decide +kernel
theorem dX11_tell_16 : decode cX11_tell 16 = .ok (.getfield 26, 3) := by decide +kernel
theorem dX11_tell_19 : decode cX11_tell 19 = .ok (.iload_n 2, 1) := by decide +kernel
theorem dX11_tell_20 : decode cX11_tell 20 = .ok (.iload_n 3, 1) := by decide +kernel
theorem dX11_tell_21 : decode cX11_tell 21 = .ok (.invokevirtual 138, 3) := by decide +kernel
theorem dX11_tell_24 : decode cX11_tell 24 = .ok (.ifCond .eq 11, 3) := by decide +kernel
theorem dX11_tell_27 : decode cX11_tell 27 = .ok (.iload 4, 2) := by decide +kernel
theorem dX11_tell_29 : decode cX11_tell 29 = .ok (.invokestatic 142, 3) := by decide +kernel
theorem dX11_tell_32 : decode cX11_tell 32 = .ok (.ifCond .ne 6, 3) := by decide +kernel
theorem dX11_tell_35 : decode cX11_tell 35 = .ok (.ldc 61, 2) := by decide +kernel
theorem dX11_tell_37 : decode cX11_tell 37 = .ok (.ireturn, 1) := by decide +kernel
theorem dX11_tell_38 : decode cX11_tell 38 = .ok (.aload 5, 2) := by decide +kernel
theorem dX11_tell_40 : decode cX11_tell 40 = .ok (.iload 4, 2) := by decide +kernel
theorem dX11_tell_42 : decode cX11_tell 42 = .ok (.invokevirtual 145, 3) := by decide +kernel
theorem dX11_tell_45 : decode cX11_tell 45 = .ok (.istore 6, 2) := by decide +kernel
theorem dX11_tell_47 : decode cX11_tell 47 = .ok (.aload_n 0, 1) := by decide +kernel
theorem dX11_tell_48 : decode cX11_tell 48 = .ok (.getfield 26, 3) := by decide +kernel
theorem dX11_tell_51 : decode cX11_tell 51 = .ok (.invokevirtual 150, 3) := by decide +kernel
theorem dX11_tell_54 : decode cX11_tell 54 = .ok (.ifCond .ne 19, 3) := by decide +kernel
theorem dX11_tell_57 : decode cX11_tell 57 = .ok (.aload_n 0, 1) := by decide +kernel
theorem dX11_tell_58 : decode cX11_tell 58 = .ok (.getfield 26, 3) := by decide +kernel
theorem dX11_tell_61 : decode cX11_tell 61 = .ok (.iload_n 2, 1) := by decide +kernel
theorem dX11_tell_62 : decode cX11_tell 62 = .ok (.iload_n 3, 1) := by decide +kernel
theorem dX11_tell_63 : decode cX11_tell 63 = .ok (.iload 6, 2) := by decide +kernel
theorem dX11_tell_65 : decode cX11_tell 65 = .ok (.iload 4, 2) := by decide +kernel
theorem dX11_tell_67 : decode cX11_tell 67 = .ok (.invokevirtual 153, 3) := by decide +kernel
theorem dX11_tell_70 : decode cX11_tell 70 = .ok (.ifCond .ne 6, 3) := by decide +kernel
theorem dX11_tell_73 : decode cX11_tell 73 = .ok (.ldc 98, 2) := by decide +kernel
theorem dX11_tell_75 : decode cX11_tell 75 = .ok (.ireturn, 1) := by decide +kernel
theorem dX11_tell_76 : decode cX11_tell 76 = .ok (.aload_n 0, 1) := by decide +kernel
theorem dX11_tell_77 : decode cX11_tell 77 = .ok (.invokevirtual 157, 3) := by decide +kernel
theorem dX11_tell_80 : decode cX11_tell 80 = .ok (.aload_n 0, 1) := by decide +kernel
theorem dX11_tell_81 : decode cX11_tell 81 = .ok (.getfield 26, 3) := by decide +kernel
theorem dX11_tell_84 : decode cX11_tell 84 = .ok (.iload_n 1, 1) := by decide +kernel
theorem dX11_tell_85 : decode cX11_tell 85 = .ok (.iload_n 2, 1) := by decide +kernel
theorem dX11_tell_86 : decode cX11_tell 86 = .ok (.iload_n 3, 1) := by decide +kernel
theorem dX11_tell_87 : decode cX11_tell 87 = .ok (.iload 4, 2) := by decide +kernel
theorem dX11_tell_89 : decode cX11_tell 89 = .ok (.iload 6, 2) := by decide +kernel
theorem dX11_tell_91 : decode cX11_tell 91 = .ok (.invokevirtual 160, 3) := by decide +kernel
theorem dX11_tell_94 : decode cX11_tell 94 = .ok (.aload_n 0, 1) := by decide +kernel
theorem dX11_tell_95 : decode cX11_tell 95 = .ok (.getfield 26, 3) := by decide +kernel
theorem dX11_tell_98 : decode cX11_tell 98 = .ok (.getfield 163, 3) := by decide +kernel
theorem dX11_tell_101 : decode cX11_tell 101 = .ok (.iload_n 2, 1) := by decide +kernel
theorem dX11_tell_102 : decode cX11_tell 102 = .ok (.iload_n 3, 1) := by decide +kernel
theorem dX11_tell_103 : decode cX11_tell 103 = .ok (.invokestatic 167, 3) := by decide +kernel
theorem dX11_tell_106 : decode cX11_tell 106 = .ok (.iaload, 1) := by decide +kernel
theorem dX11_tell_107 : decode cX11_tell 107 = .ok (.ireturn, 1) := by decide +kernel
theorem dX11_year_0 : decode cX11_year 0 = .ok (.aload_n 0, 1) := by decide +kernel
theorem dX11_year_1 : decode cX11_year 1 = .ok (.getfield 26, 3) := by decide +kernel
theorem dX11_year_4 : decode cX11_year 4 = .ok (.getfield 171, 3) := by decide +kernel
theorem dX11_year_7 : decode cX11_year 7 = .ok (.ifCond .ne 6, 3) := by decide +kernel
theorem dX11_year_10 : decode cX11_year 10 = .ok (.ldc 133, 2) := by decide +kernel
theorem dX11_year_12 : decode cX11_year 12 = .ok (.ireturn, 1) := by decide +kernel
theorem dX11_year_13 : decode cX11_year 13 = .ok (.aload_n 0, 1) := by decide +kernel
theorem dX11_year_14 : decode cX11_year 14 = .ok (.getfield 26, 3) := by decide +kernel
theorem dX11_year_17 : decode cX11_year 17 = .ok (.invokevirtual 150, 3) := by decide +kernel
theorem dX11_year_20 : decode cX11_year 20 = .ok (.ifCond .eq 6, 3) := by decide +kernel
theorem dX11_year_23 : decode cX11_year 23 = .ok (.ldc 98, 2) := by decide +kernel
theorem dX11_year_25 : decode cX11_year 25 = .ok (.ireturn, 1) := by decide +kernel
theorem dX11_year_26 : decode cX11_year 26 = .ok (.aload_n 0, 1) := by decide +kernel
theorem dX11_year_27 : decode cX11_year 27 = .ok (.invokevirtual 157, 3) := by decide +kernel
theorem dX11_year_30 : decode cX11_year 30 = .ok (.aload_n 0, 1) := by decide +kernel
theorem dX11_year_31 : decode cX11_year 31 = .ok (.getfield 26, 3) := by decide +kernel
theorem dX11_year_34 : decode cX11_year 34 = .ok (.invokevirtual 175, 3) := by decide +kernel
theorem dX11_year_37 : decode cX11_year 37 = .ok (.ireturn, 1) := by decide +kernel
theorem dX11_swap_0 : decode cX11_swap 0 = .ok (.aload_n 0, 1) := by decide +kernel
theorem dX11_swap_1 : decode cX11_swap 1 = .ok (.getfield 26, 3) := by decide +kernel
theorem dX11_swap_4 : decode cX11_swap 4 = .ok (.iload_n 1, 1) := by decide +kernel
theorem dX11_swap_5 : decode cX11_swap 5 = .ok (.invokevirtual 179, 3) := by decide +kernel
theorem dX11_swap_8 : decode cX11_swap 8 = .ok (.ifCond .eq 19, 3) := by decide +kernel
theorem dX11_swap_11 : decode cX11_swap 11 = .ok (.aload_n 0, 1) := by decide +kernel
theorem dX11_swap_12 : decode cX11_swap 12 = .ok (.getfield 26, 3) := by decide +kernel
theorem dX11_swap_15 : decode cX11_swap 15 = .ok (.iload_n 2, 1) := by decide +kernel
theorem dX11_swap_16 : decode cX11_swap 16 = .ok (.invokevirtual 179, 3) := by decide +kernel
theorem dX11_swap_19 : decode cX11_swap 19 = .ok (.ifCond .eq 8, 3) := by decide +kernel
theorem dX11_swap_22 : decode cX11_swap 22 = .ok (.iload_n 1, 1) := by decide +kernel
theorem dX11_swap_23 : decode cX11_swap 23 = .ok (.iload_n 2, 1) := by decide +kernel
theorem dX11_swap_24 : decode cX11_swap 24 = .ok (.if_icmp .ne 6, 3) := by decide +kernel
theorem dX11_swap_27 : decode cX11_swap 27 = .ok (.ldc 61, 2) := by decide +kernel
theorem dX11_swap_29 : decode cX11_swap 29 = .ok (.ireturn, 1) := by decide +kernel
theorem dX11_swap_30 : decode cX11_swap 30 = .ok (.aload_n 0, 1) := by decide +kernel
theorem dX11_swap_31 : decode cX11_swap 31 = .ok (.getfield 26, 3) := by decide +kernel
theorem dX11_swap_34 : decode cX11_swap 34 = .ok (.invokevirtual 150, 3) := by decide +kernel
theorem dX11_swap_37 : decode cX11_swap 37 = .ok (.ifCond .eq 6, 3) := by decide +kernel
theorem dX11_swap_40 : decode cX11_swap 40 = .ok (.ldc 98, 2) := by decide +kernel
theorem dX11_swap_42 : decode cX11_swap 42 = .ok (.ireturn, 1) := by decide +kernel
theorem dX11_swap_43 : decode cX11_swap 43 = .ok (.aload_n 0, 1) := by decide +kernel
theorem dX11_swap_44 : decode cX11_swap 44 = .ok (.invokevirtual 157, 3) := by decide +kernel
theorem dX11_swap_47 : decode cX11_swap 47 = .ok (.aload_n 0, 1) := by decide +kernel
theorem dX11_swap_48 : decode cX11_swap 48 = .ok (.getfield 26, 3) := by decide +kernel
theorem dX11_swap_51 : decode cX11_swap 51 = .ok (.iload_n 1, 1) := by decide +kernel
theorem dX11_swap_52 : decode cX11_swap 52 = .ok (.iload_n 2, 1) := by decide +kernel
theorem dX11_swap_53 : decode cX11_swap 53 = .ok (.invokestatic 182, 3) := by decide +kernel
theorem dX11_swap_56 : decode cX11_swap 56 = .ok (.iload_n 1, 1) := by decide +kernel
theorem dX11_swap_57 : decode cX11_swap 57 = .ok (.iload_n 2, 1) := by decide +kernel
theorem dX11_swap_58 : decode cX11_swap 58 = .ok (.invokestatic 187, 3) := by decide +kernel
theorem dX11_swap_61 : decode cX11_swap 61 = .ok (.invokevirtual 190, 3) := by decide +kernel
theorem dX11_swap_64 : decode cX11_swap 64 = .ok (.aload_n 0, 1) := by decide +kernel
theorem dX11_swap_65 : decode cX11_swap 65 = .ok (.getfield 26, 3) := by decide +kernel
theorem dX11_swap_68 : decode cX11_swap 68 = .ok (.getfield 194, 3) := by decide +kernel
theorem dX11_swap_71 : decode cX11_swap 71 = .ok (.ireturn, 1) := by decide +kernel
theorem dX11_close_0 : decode cX11_close 0 = .ok (.aload_n 0, 1) := by decide +kernel
theorem dX11_close_1 : decode cX11_close 1 = .ok (.getfield 26, 3) := by decide +kernel
theorem dX11_close_4 : decode cX11_close 4 = .ok (.getfield 171, 3) := by decide +kernel
theorem dX11_close_7 : decode cX11_close 7 = .ok (.ifCond .ne 6, 3) := by decide +kernel
theorem dX11_close_10 : decode cX11_close 10 = .ok (.ldc 133, 2) := by decide +kernel
theorem dX11_close_12 : decode cX11_close 12 = .ok (.ireturn, 1) := by decide +kernel
theorem dX11_close_13 : decode cX11_close 13 = .ok (.aload_n 0, 1) := by decide +kernel
theorem dX11_close_14 : decode cX11_close 14 = .ok (.invokevirtual 157, 3) := by decide +kernel
theorem dX11_close_17 : decode cX11_close 17 = .ok (.aload_n 0, 1) := by decide +kernel
theorem dX11_close_18 : decode cX11_close 18 = .ok (.getfield 26, 3) := by decide +kernel
theorem dX11_close_21 : decode cX11_close 21 = .ok (.invokevirtual 197, 3) := by decide +kernel
theorem dX11_close_24 : decode cX11_close 24 = .ok (.ireturn, 1) := by decide +kernel
theorem dX11_dummy_0 : decode cX11_dummy 0 = .ok (.aload_n 0, 1) := by decide +kernel
theorem dX11_dummy_1 : decode cX11_dummy 1 = .ok (.getfield 26, 3) := by decide +kernel
theorem dX11_dummy_4 : decode cX11_dummy 4 = .ok (.iload_n 1, 1) := by decide +kernel
theorem dX11_dummy_5 : decode cX11_dummy 5 = .ok (.iload_n 2, 1) := by decide +kernel
theorem dX11_dummy_6 : decode cX11_dummy 6 = .ok (.invokevirtual 138, 3) := by decide +kernel
theorem dX11_dummy_9 : decode cX11_dummy 9 = .ok (.ifCond .ne 6, 3) := by decide +kernel
theorem dX11_dummy_12 : decode cX11_dummy 12 = .ok (.ldc 61, 2) := by decide +kernel
theorem dX11_dummy_14 : decode cX11_dummy 14 = .ok (.ireturn, 1) := by decide +kernel
theorem dX11_dummy_15 : decode cX11_dummy 15 = .ok (.iload_n 1, 1) := by decide +kernel
theorem dX11_dummy_16 : decode cX11_dummy 16 = .ok (.iload_n 2, 1) := by decide +kernel
theorem dX11_dummy_17 : decode cX11_dummy 17 = .ok (.invokestatic 167, 3) := by decide +kernel
theorem dX11_dummy_20 : decode cX11_dummy 20 = .ok (.istore 4, 2) := by decide +kernel
theorem dX11_dummy_22 : decode cX11_dummy 22 = .ok (.iload_n 3, 1) := by decide +kernel
theorem dX11_dummy_23 : decode cX11_dummy 23 = .ok (.tableswitch 72 0 3 #[29, 40, 51, 62], 29) := by decide +kernel
theorem dX11_dummy_52 : decode cX11_dummy 52 = .ok (.aload_n 0, 1) := by decide +kernel
theorem dX11_dummy_53 : decode cX11_dummy 53 = .ok (.getfield 26, 3) := by decide +kernel
theorem dX11_dummy_56 : decode cX11_dummy 56 = .ok (.getfield 163, 3) := by decide +kernel
theorem dX11_dummy_59 : decode cX11_dummy 59 = .ok (.iload 4, 2) := by decide +kernel
theorem dX11_dummy_61 : decode cX11_dummy 61 = .ok (.iaload, 1) := by decide +kernel
theorem dX11_dummy_62 : decode cX11_dummy 62 = .ok (.ireturn, 1) := by decide +kernel
theorem dX11_dummy_63 : decode cX11_dummy 63 = .ok (.aload_n 0, 1) := by decide +kernel
theorem dX11_dummy_64 : decode cX11_dummy 64 = .ok (.getfield 26, 3) := by decide +kernel
theorem dX11_dummy_67 : decode cX11_dummy 67 = .ok (.getfield 200, 3) := by decide +kernel
theorem dX11_dummy_70 : decode cX11_dummy 70 = .ok (.iload 4, 2) := by decide +kernel
theorem dX11_dummy_72 : decode cX11_dummy 72 = .ok (.iaload, 1) := by decide +kernel
theorem dX11_dummy_73 : decode cX11_dummy 73 = .ok (.ireturn, 1) := by decide +kernel
theorem dX11_dummy_74 : decode cX11_dummy 74 = .ok (.aload_n 0, 1) := by decide +kernel
theorem dX11_dummy_75 : decode cX11_dummy 75 = .ok (.getfield 26, 3) := by decide +kernel
theorem dX11_dummy_78 : decode cX11_dummy 78 = .ok (.getfield 203, 3) := by decide +kernel
theorem dX11_dummy_81 : decode cX11_dummy 81 = .ok (.iload 4, 2) := by decide +kernel
theorem dX11_dummy_83 : decode cX11_dummy 83 = .ok (.iaload, 1) := by decide +kernel
theorem dX11_dummy_84 : decode cX11_dummy 84 = .ok (.ireturn, 1) := by decide +kernel
theorem dX11_dummy_85 : decode cX11_dummy 85 = .ok (.aload_n 0, 1) := by decide +kernel
theorem dX11_dummy_86 : decode cX11_dummy 86 = .ok (.getfield 26, 3) := by decide +kernel
theorem dX11_dummy_89 : decode cX11_dummy 89 = .ok (.iload 4, 2) := by decide +kernel
theorem dX11_dummy_91 : decode cX11_dummy 91 = .ok (.invokevirtual 206, 3) := by decide +kernel
theorem dX11_dummy_94 : decode cX11_dummy 94 = .ok (.ireturn, 1) := by decide +kernel
theorem dX11_dummy_95 : decode cX11_dummy 95 = .ok (.ldc 61, 2) := by decide +kernel
theorem dX11_dummy_97 : decode cX11_dummy 97 = .ok (.ireturn, 1) := by decide +kernel
theorem dX11_line_0 : decode cX11_line 0 = .ok (.iload_n 1, 1) := by decide +kernel
theorem dX11_line_1 : decode cX11_line 1 = .ok (.ifCond .lt 24, 3) := by decide +kernel
theorem dX11_line_4 : decode cX11_line 4 = .ok (.iload_n 1, 1) := by decide +kernel
theorem dX11_line_5 : decode cX11_line 5 = .ok (.aload_n 0, 1) := by decide +kernel
theorem dX11_line_6 : decode cX11_line 6 = .ok (.getfield 26, 3) := by decide +kernel
theorem dX11_line_9 : decode cX11_line 9 = .ok (.getfield 194, 3) := by decide +kernel
theorem dX11_line_12 : decode cX11_line 12 = .ok (.if_icmp .ge 13, 3) := by decide +kernel
theorem dX11_line_15 : decode cX11_line 15 = .ok (.iload_n 2, 1) := by decide +kernel
theorem dX11_line_16 : decode cX11_line 16 = .ok (.ifCond .lt 9, 3) := by decide +kernel
theorem dX11_line_19 : decode cX11_line 19 = .ok (.iload_n 2, 1) := by decide +kernel
theorem dX11_line_20 : decode cX11_line 20 = .ok (.bipush 6, 2) := by decide +kernel
theorem dX11_line_22 : decode cX11_line 22 = .ok (.if_icmp .lt 6, 3) := by decide +kernel
theorem dX11_line_25 : decode cX11_line 25 = .ok (.ldc 61, 2) := by decide +kernel
theorem dX11_line_27 : decode cX11_line 27 = .ok (.ireturn, 1) := by decide +kernel
theorem dX11_line_28 : decode cX11_line 28 = .ok (.aload_n 0, 1) := by decide +kernel
theorem dX11_line_29 : decode cX11_line 29 = .ok (.getfield 26, 3) := by decide +kernel
theorem dX11_line_32 : decode cX11_line 32 = .ok (.iload_n 1, 1) := by decide +kernel
theorem dX11_line_33 : decode cX11_line 33 = .ok (.iload_n 2, 1) := by decide +kernel
theorem dX11_line_34 : decode cX11_line 34 = .ok (.invokevirtual 209, 3) := by decide +kernel
theorem dX11_line_37 : decode cX11_line 37 = .ok (.ireturn, 1) := by decide +kernel
theorem dX11_pads_0 : decode cX11_pads 0 = .ok (.aload_n 0, 1) := by decide +kernel
theorem dX11_pads_1 : decode cX11_pads 1 = .ok (.getfield 26, 3) := by decide +kernel
theorem dX11_pads_4 : decode cX11_pads 4 = .ok (.iload_n 1, 1) := by decide +kernel
theorem dX11_pads_5 : decode cX11_pads 5 = .ok (.invokevirtual 134, 3) := by decide +kernel
theorem dX11_pads_8 : decode cX11_pads 8 = .ok (.astore_n 3, 1) := by decide +kernel
theorem dX11_pads_9 : decode cX11_pads 9 = .ok (.aload_n 3, 1) := by decide +kernel
theorem dX11_pads_10 : decode cX11_pads 10 = .ok (.ifnull 10, 3) := by decide +kernel
theorem dX11_pads_13 : decode cX11_pads 13 = .ok (.iload_n 2, 1) := by decide +kernel
theorem dX11_pads_14 : decode cX11_pads 14 = .ok (.invokestatic 142, 3) := by decide +kernel
theorem dX11_pads_17 : decode cX11_pads 17 = .ok (.ifCond .ne 6, 3) := by decide +kernel
theorem dX11_pads_20 : decode cX11_pads 20 = .ok (.ldc 61, 2) := by decide +kernel
theorem dX11_pads_22 : decode cX11_pads 22 = .ok (.ireturn, 1) := by decide +kernel
theorem dX11_pads_23 : decode cX11_pads 23 = .ok (.aload_n 3, 1) := by decide +kernel
theorem dX11_pads_24 : decode cX11_pads 24 = .ok (.iload_n 2, 1) := by decide +kernel
theorem dX11_pads_25 : decode cX11_pads 25 = .ok (.invokevirtual 145, 3) := by decide +kernel
theorem dX11_pads_28 : decode cX11_pads 28 = .ok (.ireturn, 1) := by decide +kernel
theorem dX11_was_0 : decode cX11_was 0 = .ok (.iload_n 1, 1) := by decide +kernel
theorem dX11_was_1 : decode cX11_was 1 = .ok (.ifCond .lt 26, 3) := by decide +kernel
theorem dX11_was_4 : decode cX11_was 4 = .ok (.iload_n 1, 1) := by decide +kernel
theorem dX11_was_5 : decode cX11_was 5 = .ok (.aload_n 0, 1) := by decide +kernel
theorem dX11_was_6 : decode cX11_was 6 = .ok (.getfield 26, 3) := by decide +kernel
theorem dX11_was_9 : decode cX11_was 9 = .ok (.getfield 194, 3) := by decide +kernel
theorem dX11_was_12 : decode cX11_was 12 = .ok (.if_icmp .gt 15, 3) := by decide +kernel
theorem dX11_was_15 : decode cX11_was 15 = .ok (.aload_n 0, 1) := by decide +kernel
theorem dX11_was_16 : decode cX11_was 16 = .ok (.getfield 26, 3) := by decide +kernel
theorem dX11_was_19 : decode cX11_was 19 = .ok (.iload_n 2, 1) := by decide +kernel
theorem dX11_was_20 : decode cX11_was 20 = .ok (.iload_n 3, 1) := by decide +kernel
theorem dX11_was_21 : decode cX11_was 21 = .ok (.invokevirtual 138, 3) := by decide +kernel
theorem dX11_was_24 : decode cX11_was 24 = .ok (.ifCond .ne 6, 3) := by decide +kernel
theorem dX11_was_27 : decode cX11_was 27 = .ok (.ldc 61, 2) := by decide +kernel
theorem dX11_was_29 : decode cX11_was 29 = .ok (.ireturn, 1) := by decide +kernel
theorem dX11_was_30 : decode cX11_was 30 = .ok (.aload_n 0, 1) := by decide +kernel
theorem dX11_was_31 : decode cX11_was 31 = .ok (.getfield 30, 3) := by decide +kernel
theorem dX11_was_34 : decode cX11_was 34 = .ok (.aload_n 0, 1) := by decide +kernel
theorem dX11_was_35 : decode cX11_was 35 = .ok (.getfield 26, 3) := by decide +kernel
theorem dX11_was_38 : decode cX11_was 38 = .ok (.invokevirtual 120, 3) := by decide +kernel
theorem dX11_was_41 : decode cX11_was 41 = .ok (.aload_n 0, 1) := by decide +kernel
theorem dX11_was_42 : decode cX11_was 42 = .ok (.getfield 30, 3) := by decide +kernel
theorem dX11_was_45 : decode cX11_was 45 = .ok (.iload_n 1, 1) := by decide +kernel
theorem dX11_was_46 : decode cX11_was 46 = .ok (.invokevirtual 212, 3) := by decide +kernel
theorem dX11_was_49 : decode cX11_was 49 = .ok (.aload_n 0, 1) := by decide +kernel
theorem dX11_was_50 : decode cX11_was 50 = .ok (.getfield 30, 3) := by decide +kernel
theorem dX11_was_53 : decode cX11_was 53 = .ok (.getfield 163, 3) := by decide +kernel
theorem dX11_was_56 : decode cX11_was 56 = .ok (.iload_n 2, 1) := by decide +kernel
theorem dX11_was_57 : decode cX11_was 57 = .ok (.iload_n 3, 1) := by decide +kernel
theorem dX11_was_58 : decode cX11_was 58 = .ok (.invokestatic 167, 3) := by decide +kernel
theorem dX11_was_61 : decode cX11_was 61 = .ok (.iaload, 1) := by decide +kernel
theorem dX11_was_62 : decode cX11_was 62 = .ok (.ireturn, 1) := by decide +kernel
theorem dX11_liars_0 : decode cX11_liars 0 = .ok (.aload_n 0, 1) := by decide +kernel
theorem dX11_liars_1 : decode cX11_liars 1 = .ok (.getfield 26, 3) := by decide +kernel
theorem dX11_liars_4 : decode cX11_liars 4 = .ok (.iload_n 1, 1) := by decide +kernel
theorem dX11_liars_5 : decode cX11_liars 5 = .ok (.invokevirtual 179, 3) := by decide +kernel
theorem dX11_liars_8 : decode cX11_liars 8 = .ok (.ifCond .eq 18, 3) := by decide +kernel
theorem dX11_liars_11 : decode cX11_liars 11 = .ok (.iload_n 2, 1) := by decide +kernel
theorem dX11_liars_12 : decode cX11_liars 12 = .ok (.invokestatic 54, 3) := by decide +kernel
theorem dX11_liars_15 : decode cX11_liars 15 = .ok (.ifCond .eq 11, 3) := by decide +kernel
theorem dX11_liars_18 : decode cX11_liars 18 = .ok (.iload 4, 2) := by decide +kernel
theorem dX11_liars_20 : decode cX11_liars 20 = .ok (.invokestatic 216, 3) := by decide +kernel
theorem dX11_liars_23 : decode cX11_liars 23 = .ok (.ifCond .ne 6, 3) := by decide +kernel
theorem dX11_liars_26 : decode cX11_liars 26 = .ok (.ldc 61, 2) := by decide +kernel
theorem dX11_liars_28 : decode cX11_liars 28 = .ok (.ireturn, 1) := by decide +kernel
theorem dX11_liars_29 : decode cX11_liars 29 = .ok (.aload_n 0, 1) := by decide +kernel
theorem dX11_liars_30 : decode cX11_liars 30 = .ok (.getfield 10, 3) := by decide +kernel
theorem dX11_liars_33 : decode cX11_liars 33 = .ok (.iload_n 2, 1) := by decide +kernel
theorem dX11_liars_34 : decode cX11_liars 34 = .ok (.iload_n 3, 1) := by decide +kernel
theorem dX11_liars_35 : decode cX11_liars 35 = .ok (.iconst 3, 1) := by decide +kernel
theorem dX11_liars_36 : decode cX11_liars 36 = .ok (.invokevirtual 73, 3) := by decide +kernel
theorem dX11_liars_39 : decode cX11_liars 39 = .ok (.istore 5, 2) := by decide +kernel
theorem dX11_liars_41 : decode cX11_liars 41 = .ok (.iload 5, 2) := by decide +kernel
theorem dX11_liars_43 : decode cX11_liars 43 = .ok (.ifCond .eq 10, 3) := by decide +kernel
theorem dX11_liars_46 : decode cX11_liars 46 = .ok (.aload_n 0, 1) := by decide +kernel
theorem dX11_liars_47 : decode cX11_liars 47 = .ok (.iload 5, 2) := by decide +kernel
theorem dX11_liars_49 : decode cX11_liars 49 = .ok (.invokevirtual 62, 3) := by decide +kernel
theorem dX11_liars_52 : decode cX11_liars 52 = .ok (.ireturn, 1) := by decide +kernel
theorem dX11_liars_53 : decode cX11_liars 53 = .ok (.aload_n 0, 1) := by decide +kernel
theorem dX11_liars_54 : decode cX11_liars 54 = .ok (.getfield 36, 3) := by decide +kernel
theorem dX11_liars_57 : decode cX11_liars 57 = .ok (.aload_n 0, 1) := by decide +kernel
theorem dX11_liars_58 : decode cX11_liars 58 = .ok (.getfield 26, 3) := by decide +kernel
theorem dX11_liars_61 : decode cX11_liars 61 = .ok (.iload_n 1, 1) := by decide +kernel
theorem dX11_liars_62 : decode cX11_liars 62 = .ok (.aload_n 0, 1) := by decide +kernel
theorem dX11_liars_63 : decode cX11_liars 63 = .ok (.getfield 10, 3) := by decide +kernel
theorem dX11_liars_66 : decode cX11_liars 66 = .ok (.iload_n 2, 1) := by decide +kernel
theorem dX11_liars_67 : decode cX11_liars 67 = .ok (.iload_n 3, 1) := by decide +kernel
theorem dX11_liars_68 : decode cX11_liars 68 = .ok (.invokevirtual 219, 3) := by decide +kernel
theorem dX11_liars_71 : decode cX11_liars 71 = .ok (.istore 6, 2) := by decide +kernel
theorem dX11_liars_73 : decode cX11_liars 73 = .ok (.aload_n 0, 1) := by decide +kernel
theorem dX11_liars_74 : decode cX11_liars 74 = .ok (.iload 4, 2) := by decide +kernel
theorem dX11_liars_76 : decode cX11_liars 76 = .ok (.ifCond .ne 11, 3) := by decide +kernel
theorem dX11_liars_79 : decode cX11_liars 79 = .ok (.iload 6, 2) := by decide +kernel
theorem dX11_liars_81 : decode cX11_liars 81 = .ok (.invokestatic 223, 3) := by decide +kernel
theorem dX11_liars_84 : decode cX11_liars 84 = .ok (.goto 12, 3) := by decide +kernel
theorem dX11_liars_87 : decode cX11_liars 87 = .ok (.aload_n 0, 1) := by decide +kernel
theorem dX11_liars_88 : decode cX11_liars 88 = .ok (.getfield 36, 3) := by decide +kernel
theorem dX11_liars_91 : decode cX11_liars 91 = .ok (.iload 6, 2) := by decide +kernel
theorem dX11_liars_93 : decode cX11_liars 93 = .ok (.invokevirtual 228, 3) := by decide +kernel
theorem dX11_liars_96 : decode cX11_liars 96 = .ok (.invokevirtual 70, 3) := by decide +kernel
theorem dX11_liars_99 : decode cX11_liars 99 = .ok (.ireturn, 1) := by decide +kernel
theorem dX11_blame_0 : decode cX11_blame 0 = .ok (.aload_n 0, 1) := by decide +kernel
theorem dX11_blame_1 : decode cX11_blame 1 = .ok (.getfield 26, 3) := by decide +kernel
theorem dX11_blame_4 : decode cX11_blame 4 = .ok (.iload_n 1, 1) := by decide +kernel
theorem dX11_blame_5 : decode cX11_blame 5 = .ok (.invokevirtual 179, 3) := by decide +kernel
theorem dX11_blame_8 : decode cX11_blame 8 = .ok (.ifCond .eq 29, 3) := by decide +kernel
theorem dX11_blame_11 : decode cX11_blame 11 = .ok (.aload_n 0, 1) := by decide +kernel
theorem dX11_blame_12 : decode cX11_blame 12 = .ok (.getfield 26, 3) := by decide +kernel
theorem dX11_blame_15 : decode cX11_blame 15 = .ok (.iload_n 2, 1) := by decide +kernel
theorem dX11_blame_16 : decode cX11_blame 16 = .ok (.invokevirtual 134, 3) := by decide +kernel
theorem dX11_blame_19 : decode cX11_blame 19 = .ok (.ifnull 18, 3) := by decide +kernel
theorem dX11_blame_22 : decode cX11_blame 22 = .ok (.iload_n 3, 1) := by decide +kernel
theorem dX11_blame_23 : decode cX11_blame 23 = .ok (.invokestatic 54, 3) := by decide +kernel
theorem dX11_blame_26 : decode cX11_blame 26 = .ok (.ifCond .eq 11, 3) := by decide +kernel
theorem dX11_blame_29 : decode cX11_blame 29 = .ok (.iload 5, 2) := by decide +kernel
theorem dX11_blame_31 : decode cX11_blame 31 = .ok (.invokestatic 216, 3) := by decide +kernel
theorem dX11_blame_34 : decode cX11_blame 34 = .ok (.ifCond .ne 6, 3) := by decide +kernel
theorem dX11_blame_37 : decode cX11_blame 37 = .ok (.ldc 61, 2) := by decide +kernel
theorem dX11_blame_39 : decode cX11_blame 39 = .ok (.ireturn, 1) := by decide +kernel
theorem dX11_blame_40 : decode cX11_blame 40 = .ok (.aload_n 0, 1) := by decide +kernel
theorem dX11_blame_41 : decode cX11_blame 41 = .ok (.getfield 10, 3) := by decide +kernel
theorem dX11_blame_44 : decode cX11_blame 44 = .ok (.iload_n 3, 1) := by decide +kernel
theorem dX11_blame_45 : decode cX11_blame 45 = .ok (.iload 4, 2) := by decide +kernel
theorem dX11_blame_47 : decode cX11_blame 47 = .ok (.iconst 3, 1) := by decide +kernel
theorem dX11_blame_48 : decode cX11_blame 48 = .ok (.invokevirtual 73, 3) := by decide +kernel
theorem dX11_blame_51 : decode cX11_blame 51 = .ok (.istore 6, 2) := by decide +kernel
theorem dX11_blame_53 : decode cX11_blame 53 = .ok (.iload 6, 2) := by decide +kernel
theorem dX11_blame_55 : decode cX11_blame 55 = .ok (.ifCond .eq 10, 3) := by decide +kernel
theorem dX11_blame_58 : decode cX11_blame 58 = .ok (.aload_n 0, 1) := by decide +kernel
theorem dX11_blame_59 : decode cX11_blame 59 = .ok (.iload 6, 2) := by decide +kernel
theorem dX11_blame_61 : decode cX11_blame 61 = .ok (.invokevirtual 62, 3) := by decide +kernel
theorem dX11_blame_64 : decode cX11_blame 64 = .ok (.ireturn, 1) := by decide +kernel
theorem dX11_blame_65 : decode cX11_blame 65 = .ok (.aload_n 0, 1) := by decide +kernel
theorem dX11_blame_66 : decode cX11_blame 66 = .ok (.getfield 36, 3) := by decide +kernel
theorem dX11_blame_69 : decode cX11_blame 69 = .ok (.aload_n 0, 1) := by decide +kernel
theorem dX11_blame_70 : decode cX11_blame 70 = .ok (.getfield 26, 3) := by decide +kernel
theorem dX11_blame_73 : decode cX11_blame 73 = .ok (.iload_n 1, 1) := by decide +kernel
theorem dX11_blame_74 : decode cX11_blame 74 = .ok (.aload_n 0, 1) := by decide +kernel
theorem dX11_blame_75 : decode cX11_blame 75 = .ok (.getfield 10, 3) := by decide +kernel
theorem dX11_blame_78 : decode cX11_blame 78 = .ok (.iload_n 3, 1) := by decide +kernel
theorem dX11_blame_79 : decode cX11_blame 79 = .ok (.iload 4, 2) := by decide +kernel
theorem dX11_blame_81 : decode cX11_blame 81 = .ok (.invokevirtual 219, 3) := by decide +kernel
theorem dX11_blame_84 : decode cX11_blame 84 = .ok (.istore 7, 2) := by decide +kernel
theorem dX11_blame_86 : decode cX11_blame 86 = .ok (.iload 7, 2) := by decide +kernel
theorem dX11_blame_88 : decode cX11_blame 88 = .ok (.ifCond .ne 10, 3) := by decide +kernel
theorem dX11_blame_91 : decode cX11_blame 91 = .ok (.aload_n 0, 1) := by decide +kernel
theorem dX11_blame_92 : decode cX11_blame 92 = .ok (.ldc 231, 2) := by decide +kernel
theorem dX11_blame_94 : decode cX11_blame 94 = .ok (.invokevirtual 70, 3) := by decide +kernel
theorem dX11_blame_97 : decode cX11_blame 97 = .ok (.ireturn, 1) := by decide +kernel
theorem dX11_blame_98 : decode cX11_blame 98 = .ok (.aload_n 0, 1) := by decide +kernel
theorem dX11_blame_99 : decode cX11_blame 99 = .ok (.getfield 36, 3) := by decide +kernel
theorem dX11_blame_102 : decode cX11_blame 102 = .ok (.iload 7, 2) := by decide +kernel
theorem dX11_blame_104 : decode cX11_blame 104 = .ok (.iload_n 2, 1) := by decide +kernel
theorem dX11_blame_105 : decode cX11_blame 105 = .ok (.invokevirtual 232, 3) := by decide +kernel
theorem dX11_blame_108 : decode cX11_blame 108 = .ok (.istore 8, 2) := by decide +kernel
theorem dX11_blame_110 : decode cX11_blame 110 = .ok (.aload_n 0, 1) := by decide +kernel
theorem dX11_blame_111 : decode cX11_blame 111 = .ok (.aload_n 0, 1) := by decide +kernel
theorem dX11_blame_112 : decode cX11_blame 112 = .ok (.getfield 36, 3) := by decide +kernel
theorem dX11_blame_115 : decode cX11_blame 115 = .ok (.iload 8, 2) := by decide +kernel
theorem dX11_blame_117 : decode cX11_blame 117 = .ok (.iload 7, 2) := by decide +kernel
theorem dX11_blame_119 : decode cX11_blame 119 = .ok (.invokestatic 223, 3) := by decide +kernel
theorem dX11_blame_122 : decode cX11_blame 122 = .ok (.iload 5, 2) := by decide +kernel
theorem dX11_blame_124 : decode cX11_blame 124 = .ok (.invokevirtual 235, 3) := by decide +kernel
theorem dX11_blame_127 : decode cX11_blame 127 = .ok (.invokevirtual 70, 3) := by decide +kernel
theorem dX11_blame_130 : decode cX11_blame 130 = .ok (.ireturn, 1) := by decide +kernel
theorem dX11_right_0 : decode cX11_right 0 = .ok (.aload_n 0, 1) := by decide +kernel
theorem dX11_right_1 : decode cX11_right 1 = .ok (.getfield 26, 3) := by decide +kernel
theorem dX11_right_4 : decode cX11_right 4 = .ok (.iload_n 1, 1) := by decide +kernel
theorem dX11_right_5 : decode cX11_right 5 = .ok (.invokevirtual 179, 3) := by decide +kernel
theorem dX11_right_8 : decode cX11_right 8 = .ok (.ifCond .eq 13, 3) := by decide +kernel
theorem dX11_right_11 : decode cX11_right 11 = .ok (.iload_n 2, 1) := by decide +kernel
theorem dX11_right_12 : decode cX11_right 12 = .ok (.ifCond .lt 9, 3) := by decide +kernel
theorem dX11_right_15 : decode cX11_right 15 = .ok (.iload_n 2, 1) := by decide +kernel
theorem dX11_right_16 : decode cX11_right 16 = .ok (.bipush 6, 2) := by decide +kernel
theorem dX11_right_18 : decode cX11_right 18 = .ok (.if_icmp .le 6, 3) := by decide +kernel
theorem dX11_right_21 : decode cX11_right 21 = .ok (.ldc 61, 2) := by decide +kernel
theorem dX11_right_23 : decode cX11_right 23 = .ok (.ireturn, 1) := by decide +kernel
theorem dX11_right_24 : decode cX11_right 24 = .ok (.aload_n 0, 1) := by decide +kernel
theorem dX11_right_25 : decode cX11_right 25 = .ok (.getfield 36, 3) := by decide +kernel
theorem dX11_right_28 : decode cX11_right 28 = .ok (.aload_n 0, 1) := by decide +kernel
theorem dX11_right_29 : decode cX11_right 29 = .ok (.getfield 26, 3) := by decide +kernel
theorem dX11_right_32 : decode cX11_right 32 = .ok (.iload_n 1, 1) := by decide +kernel
theorem dX11_right_33 : decode cX11_right 33 = .ok (.iload_n 2, 1) := by decide +kernel
theorem dX11_right_34 : decode cX11_right 34 = .ok (.invokevirtual 238, 3) := by decide +kernel
theorem dX11_right_37 : decode cX11_right 37 = .ok (.ireturn, 1) := by decide +kernel
theorem dX11_most_0 : decode cX11_most 0 = .ok (.aload_n 0, 1) := by decide +kernel
theorem dX11_most_1 : decode cX11_most 1 = .ok (.getfield 26, 3) := by decide +kernel
theorem dX11_most_4 : decode cX11_most 4 = .ok (.iload_n 1, 1) := by decide +kernel
theorem dX11_most_5 : decode cX11_most 5 = .ok (.iload_n 2, 1) := by decide +kernel
theorem dX11_most_6 : decode cX11_most 6 = .ok (.invokevirtual 138, 3) := by decide +kernel
theorem dX11_most_9 : decode cX11_most 9 = .ok (.ifCond .eq 10, 3) := by decide +kernel
theorem dX11_most_12 : decode cX11_most 12 = .ok (.iload_n 3, 1) := by decide +kernel
theorem dX11_most_13 : decode cX11_most 13 = .ok (.invokestatic 216, 3) := by decide +kernel
theorem dX11_most_16 : decode cX11_most 16 = .ok (.ifCond .ne 6, 3) := by decide +kernel
theorem dX11_most_19 : decode cX11_most 19 = .ok (.ldc 61, 2) := by decide +kernel
theorem dX11_most_21 : decode cX11_most 21 = .ok (.ireturn, 1) := by decide +kernel
theorem dX11_most_22 : decode cX11_most 22 = .ok (.aload_n 0, 1) := by decide +kernel
theorem dX11_most_23 : decode cX11_most 23 = .ok (.getfield 36, 3) := by decide +kernel
theorem dX11_most_26 : decode cX11_most 26 = .ok (.aload_n 0, 1) := by decide +kernel
theorem dX11_most_27 : decode cX11_most 27 = .ok (.getfield 26, 3) := by decide +kernel
theorem dX11_most_30 : decode cX11_most 30 = .ok (.iload_n 1, 1) := by decide +kernel
theorem dX11_most_31 : decode cX11_most 31 = .ok (.iload_n 2, 1) := by decide +kernel
theorem dX11_most_32 : decode cX11_most 32 = .ok (.iload_n 3, 1) := by decide +kernel
theorem dX11_most_33 : decode cX11_most 33 = .ok (.invokevirtual 242, 3) := by decide +kernel
theorem dX11_most_36 : decode cX11_most 36 = .ok (.ireturn, 1) := by decide +kernel
theorem dX11_swaps_0 : decode cX11_swaps 0 = .ok (.aload_n 0, 1) := by decide +kernel
theorem dX11_swaps_1 : decode cX11_swaps 1 = .ok (.getfield 26, 3) := by decide +kernel
theorem dX11_swaps_4 : decode cX11_swaps 4 = .ok (.getfield 171, 3) := by decide +kernel
theorem dX11_swaps_7 : decode cX11_swaps 7 = .ok (.ifCond .ne 6, 3) := by decide +kernel
theorem dX11_swaps_10 : decode cX11_swaps 10 = .ok (.ldc 133, 2) := by decide +kernel
theorem dX11_swaps_12 : decode cX11_swaps 12 = .ok (.ireturn, 1) := by decide +kernel
theorem dX11_swaps_13 : decode cX11_swaps 13 = .ok (.iload_n 1, 1) := by decide +kernel
theorem dX11_swaps_14 : decode cX11_swaps 14 = .ok (.invokestatic 54, 3) := by decide +kernel
theorem dX11_swaps_17 : decode cX11_swaps 17 = .ok (.ifCond .eq 10, 3) := by decide +kernel
theorem dX11_swaps_20 : decode cX11_swaps 20 = .ok (.iload_n 3, 1) := by decide +kernel
theorem dX11_swaps_21 : decode cX11_swaps 21 = .ok (.invokestatic 216, 3) := by decide +kernel
theorem dX11_swaps_24 : decode cX11_swaps 24 = .ok (.ifCond .ne 6, 3) := by decide +kernel
theorem dX11_swaps_27 : decode cX11_swaps 27 = .ok (.ldc 61, 2) := by decide +kernel
theorem dX11_swaps_29 : decode cX11_swaps 29 = .ok (.ireturn, 1) := by decide +kernel
theorem dX11_swaps_30 : decode cX11_swaps 30 = .ok (.aload_n 0, 1) := by decide +kernel
theorem dX11_swaps_31 : decode cX11_swaps 31 = .ok (.getfield 10, 3) := by decide +kernel
theorem dX11_swaps_34 : decode cX11_swaps 34 = .ok (.iload_n 1, 1) := by decide +kernel
theorem dX11_swaps_35 : decode cX11_swaps 35 = .ok (.iload_n 2, 1) := by decide +kernel
theorem dX11_swaps_36 : decode cX11_swaps 36 = .ok (.iconst 3, 1) := by decide +kernel
theorem dX11_swaps_37 : decode cX11_swaps 37 = .ok (.aload_n 0, 1) := by decide +kernel
theorem dX11_swaps_38 : decode cX11_swaps 38 = .ok (.getfield 26, 3) := by decide +kernel
theorem dX11_swaps_41 : decode cX11_swaps 41 = .ok (.getfield 127, 3) := by decide +kernel
theorem dX11_swaps_44 : decode cX11_swaps 44 = .ok (.imul, 1) := by decide +kernel
theorem dX11_swaps_45 : decode cX11_swaps 45 = .ok (.invokevirtual 73, 3) := by decide +kernel
theorem dX11_swaps_48 : decode cX11_swaps 48 = .ok (.istore 4, 2) := by decide +kernel
theorem dX11_swaps_50 : decode cX11_swaps 50 = .ok (.iload 4, 2) := by decide +kernel
theorem dX11_swaps_52 : decode cX11_swaps 52 = .ok (.ifCond .eq 10, 3) := by decide +kernel
theorem dX11_swaps_55 : decode cX11_swaps 55 = .ok (.aload_n 0, 1) := by decide +kernel
theorem dX11_swaps_56 : decode cX11_swaps 56 = .ok (.iload 4, 2) := by decide +kernel
theorem dX11_swaps_58 : decode cX11_swaps 58 = .ok (.invokevirtual 62, 3) := by decide +kernel
theorem dX11_swaps_61 : decode cX11_swaps 61 = .ok (.ireturn, 1) := by decide +kernel
theorem dX11_swaps_62 : decode cX11_swaps 62 = .ok (.aload_n 0, 1) := by decide +kernel
theorem dX11_swaps_63 : decode cX11_swaps 63 = .ok (.aload_n 0, 1) := by decide +kernel
theorem dX11_swaps_64 : decode cX11_swaps 64 = .ok (.getfield 36, 3) := by decide +kernel
theorem dX11_swaps_67 : decode cX11_swaps 67 = .ok (.aload_n 0, 1) := by decide +kernel
theorem dX11_swaps_68 : decode cX11_swaps 68 = .ok (.getfield 26, 3) := by decide +kernel
theorem dX11_swaps_71 : decode cX11_swaps 71 = .ok (.aload_n 0, 1) := by decide +kernel
theorem dX11_swaps_72 : decode cX11_swaps 72 = .ok (.getfield 10, 3) := by decide +kernel
theorem dX11_swaps_75 : decode cX11_swaps 75 = .ok (.iload_n 1, 1) := by decide +kernel
theorem dX11_swaps_76 : decode cX11_swaps 76 = .ok (.iload_n 2, 1) := by decide +kernel
theorem dX11_swaps_77 : decode cX11_swaps 77 = .ok (.iload_n 3, 1) := by decide +kernel
theorem dX11_swaps_78 : decode cX11_swaps 78 = .ok (.invokevirtual 246, 3) := by decide +kernel
theorem dX11_swaps_81 : decode cX11_swaps 81 = .ok (.invokevirtual 70, 3) := by decide +kernel
theorem dX11_swaps_84 : decode cX11_swaps 84 = .ok (.ireturn, 1) := by decide +kernel
theorem dX11_lent_0 : decode cX11_lent 0 = .ok (.aload_n 0, 1) := by decide +kernel
theorem dX11_lent_1 : decode cX11_lent 1 = .ok (.getfield 26, 3) := by decide +kernel
theorem dX11_lent_4 : decode cX11_lent 4 = .ok (.getfield 171, 3) := by decide +kernel
theorem dX11_lent_7 : decode cX11_lent 7 = .ok (.ifCond .ne 6, 3) := by decide +kernel
theorem dX11_lent_10 : decode cX11_lent 10 = .ok (.ldc 133, 2) := by decide +kernel
theorem dX11_lent_12 : decode cX11_lent 12 = .ok (.ireturn, 1) := by decide +kernel
theorem dX11_lent_13 : decode cX11_lent 13 = .ok (.iload_n 1, 1) := by decide +kernel
theorem dX11_lent_14 : decode cX11_lent 14 = .ok (.invokestatic 250, 3) := by decide +kernel
theorem dX11_lent_17 : decode cX11_lent 17 = .ok (.ifCond .eq 10, 3) := by decide +kernel
theorem dX11_lent_20 : decode cX11_lent 20 = .ok (.iload_n 2, 1) := by decide +kernel
theorem dX11_lent_21 : decode cX11_lent 21 = .ok (.invokestatic 216, 3) := by decide +kernel
theorem dX11_lent_24 : decode cX11_lent 24 = .ok (.ifCond .ne 6, 3) := by decide +kernel
theorem dX11_lent_27 : decode cX11_lent 27 = .ok (.ldc 61, 2) := by decide +kernel
theorem dX11_lent_29 : decode cX11_lent 29 = .ok (.ireturn, 1) := by decide +kernel
theorem dX11_lent_30 : decode cX11_lent 30 = .ok (.aload_n 0, 1) := by decide +kernel
theorem dX11_lent_31 : decode cX11_lent 31 = .ok (.getfield 47, 3) := by decide +kernel
theorem dX11_lent_34 : decode cX11_lent 34 = .ok (.iload_n 1, 1) := by decide +kernel
theorem dX11_lent_35 : decode cX11_lent 35 = .ok (.aaload, 1) := by decide +kernel
theorem dX11_lent_36 : decode cX11_lent 36 = .ok (.astore_n 3, 1) := by decide +kernel
theorem dX11_lent_37 : decode cX11_lent 37 = .ok (.aload_n 3, 1) := by decide +kernel
theorem dX11_lent_38 : decode cX11_lent 38 = .ok (.ifnull 17, 3) := by decide +kernel
theorem dX11_lent_41 : decode cX11_lent 41 = .ok (.aload_n 3, 1) := by decide +kernel
theorem dX11_lent_42 : decode cX11_lent 42 = .ok (.getfield 127, 3) := by decide +kernel
theorem dX11_lent_45 : decode cX11_lent 45 = .ok (.aload_n 0, 1) := by decide +kernel
theorem dX11_lent_46 : decode cX11_lent 46 = .ok (.getfield 26, 3) := by decide +kernel
theorem dX11_lent_49 : decode cX11_lent 49 = .ok (.getfield 127, 3) := by decide +kernel
theorem dX11_lent_52 : decode cX11_lent 52 = .ok (.if_icmp .eq 6, 3) := by decide +kernel
theorem dX11_lent_55 : decode cX11_lent 55 = .ok (.ldc 133, 2) := by decide +kernel
theorem dX11_lent_57 : decode cX11_lent 57 = .ok (.ireturn, 1) := by decide +kernel
theorem dX11_lent_58 : decode cX11_lent 58 = .ok (.iload_n 2, 1) := by decide +kernel
theorem dX11_lent_59 : decode cX11_lent 59 = .ok (.ifCond .ne 18, 3) := by decide +kernel
theorem dX11_lent_62 : decode cX11_lent 62 = .ok (.aload_n 0, 1) := by decide +kernel
theorem dX11_lent_63 : decode cX11_lent 63 = .ok (.getfield 36, 3) := by decide +kernel
theorem dX11_lent_66 : decode cX11_lent 66 = .ok (.aload_n 0, 1) := by decide +kernel
theorem dX11_lent_67 : decode cX11_lent 67 = .ok (.getfield 26, 3) := by decide +kernel
theorem dX11_lent_70 : decode cX11_lent 70 = .ok (.aload_n 3, 1) := by decide +kernel
theorem dX11_lent_71 : decode cX11_lent 71 = .ok (.invokevirtual 253, 3) := by decide +kernel
theorem dX11_lent_74 : decode cX11_lent 74 = .ok (.goto 15, 3) := by decide +kernel
theorem dX11_lent_77 : decode cX11_lent 77 = .ok (.aload_n 0, 1) := by decide +kernel
theorem dX11_lent_78 : decode cX11_lent 78 = .ok (.getfield 36, 3) := by decide +kernel
theorem dX11_lent_81 : decode cX11_lent 81 = .ok (.aload_n 0, 1) := by decide +kernel
theorem dX11_lent_82 : decode cX11_lent 82 = .ok (.getfield 26, 3) := by decide +kernel
theorem dX11_lent_85 : decode cX11_lent 85 = .ok (.aload_n 3, 1) := by decide +kernel
theorem dX11_lent_86 : decode cX11_lent 86 = .ok (.invokevirtual 257, 3) := by decide +kernel
theorem dX11_lent_89 : decode cX11_lent 89 = .ok (.ireturn, 1) := by decide +kernel
theorem dX11_parted_0 : decode cX11_parted 0 = .ok (.aload_n 0, 1) := by decide +kernel
theorem dX11_parted_1 : decode cX11_parted 1 = .ok (.getfield 26, 3) := by decide +kernel
theorem dX11_parted_4 : decode cX11_parted 4 = .ok (.iload_n 1, 1) := by decide +kernel
theorem dX11_parted_5 : decode cX11_parted 5 = .ok (.invokevirtual 134, 3) := by decide +kernel
theorem dX11_parted_8 : decode cX11_parted 8 = .ok (.astore 5, 2) := by decide +kernel
theorem dX11_parted_10 : decode cX11_parted 10 = .ok (.aload_n 0, 1) := by decide +kernel
theorem dX11_parted_11 : decode cX11_parted 11 = .ok (.getfield 26, 3) := by decide +kernel
theorem dX11_parted_14 : decode cX11_parted 14 = .ok (.iload_n 2, 1) := by decide +kernel
theorem dX11_parted_15 : decode cX11_parted 15 = .ok (.invokevirtual 134, 3) := by decide +kernel
theorem dX11_parted_18 : decode cX11_parted 18 = .ok (.astore 6, 2) := by decide +kernel
theorem dX11_parted_20 : decode cX11_parted 20 = .ok (.aload 5, 2) := by decide +kernel
theorem dX11_parted_22 : decode cX11_parted 22 = .ok (.ifnull 35, 3) := by decide +kernel
theorem dX11_parted_25 : decode cX11_parted 25 = .ok (.aload 6, 2) := by decide +kernel
theorem dX11_parted_27 : decode cX11_parted 27 = .ok (.ifnull 30, 3) := by decide +kernel
theorem dX11_parted_30 : decode cX11_parted 30 = .ok (.iload_n 1, 1) := by decide +kernel
theorem dX11_parted_31 : decode cX11_parted 31 = .ok (.iload_n 2, 1) := by decide +kernel
theorem dX11_parted_32 : decode cX11_parted 32 = .ok (.if_icmp .eq 25, 3) := by decide +kernel
theorem dX11_parted_35 : decode cX11_parted 35 = .ok (.iload 4, 2) := by decide +kernel
theorem dX11_parted_37 : decode cX11_parted 37 = .ok (.invokestatic 216, 3) := by decide +kernel
theorem dX11_parted_40 : decode cX11_parted 40 = .ok (.ifCond .eq 17, 3) := by decide +kernel
theorem dX11_parted_43 : decode cX11_parted 43 = .ok (.iload_n 3, 1) := by decide +kernel
theorem dX11_parted_44 : decode cX11_parted 44 = .ok (.sipush (-200), 3) := by decide +kernel
theorem dX11_parted_47 : decode cX11_parted 47 = .ok (.if_icmp .lt 10, 3) := by decide +kernel
theorem dX11_parted_50 : decode cX11_parted 50 = .ok (.iload_n 3, 1) := by decide +kernel
theorem dX11_parted_51 : decode cX11_parted 51 = .ok (.sipush 200, 3) := by decide +kernel
theorem dX11_parted_54 : decode cX11_parted 54 = .ok (.if_icmp .le 6, 3) := by decide +kernel
theorem dX11_parted_57 : decode cX11_parted 57 = .ok (.ldc 61, 2) := by decide +kernel
theorem dX11_parted_59 : decode cX11_parted 59 = .ok (.ireturn, 1) := by decide +kernel
theorem dX11_parted_60 : decode cX11_parted 60 = .ok (.aload_n 0, 1) := by decide +kernel
theorem dX11_parted_61 : decode cX11_parted 61 = .ok (.getfield 36, 3) := by decide +kernel
theorem dX11_parted_64 : decode cX11_parted 64 = .ok (.aload 5, 2) := by decide +kernel
theorem dX11_parted_66 : decode cX11_parted 66 = .ok (.aload 6, 2) := by decide +kernel
theorem dX11_parted_68 : decode cX11_parted 68 = .ok (.iload_n 3, 1) := by decide +kernel
theorem dX11_parted_69 : decode cX11_parted 69 = .ok (.iload 4, 2) := by decide +kernel
theorem dX11_parted_71 : decode cX11_parted 71 = .ok (.invokevirtual 260, 3) := by decide +kernel
theorem dX11_parted_74 : decode cX11_parted 74 = .ok (.ireturn, 1) := by decide +kernel
theorem dX11_addedUp_0 : decode cX11_addedUp 0 = .ok (.aload_n 0, 1) := by decide +kernel
theorem dX11_addedUp_1 : decode cX11_addedUp 1 = .ok (.getfield 26, 3) := by decide +kernel
theorem dX11_addedUp_4 : decode cX11_addedUp 4 = .ok (.iload_n 1, 1) := by decide +kernel
theorem dX11_addedUp_5 : decode cX11_addedUp 5 = .ok (.invokevirtual 179, 3) := by decide +kernel
theorem dX11_addedUp_8 : decode cX11_addedUp 8 = .ok (.ifCond .eq 21, 3) := by decide +kernel
theorem dX11_addedUp_11 : decode cX11_addedUp 11 = .ok (.iload_n 2, 1) := by decide +kernel
theorem dX11_addedUp_12 : decode cX11_addedUp 12 = .ok (.ifCond .lt 17, 3) := by decide +kernel
theorem dX11_addedUp_15 : decode cX11_addedUp 15 = .ok (.iload_n 2, 1) := by decide +kernel
theorem dX11_addedUp_16 : decode cX11_addedUp 16 = .ok (.sipush 297, 3) := by decide +kernel
theorem dX11_addedUp_19 : decode cX11_addedUp 19 = .ok (.if_icmp .gt 10, 3) := by decide +kernel
theorem dX11_addedUp_22 : decode cX11_addedUp 22 = .ok (.iload_n 3, 1) := by decide +kernel
theorem dX11_addedUp_23 : decode cX11_addedUp 23 = .ok (.invokestatic 216, 3) := by decide +kernel
theorem dX11_addedUp_26 : decode cX11_addedUp 26 = .ok (.ifCond .ne 6, 3) := by decide +kernel
theorem dX11_addedUp_29 : decode cX11_addedUp 29 = .ok (.ldc 61, 2) := by decide +kernel
theorem dX11_addedUp_31 : decode cX11_addedUp 31 = .ok (.ireturn, 1) := by decide +kernel
theorem dX11_addedUp_32 : decode cX11_addedUp 32 = .ok (.aload_n 0, 1) := by decide +kernel
theorem dX11_addedUp_33 : decode cX11_addedUp 33 = .ok (.getfield 36, 3) := by decide +kernel
theorem dX11_addedUp_36 : decode cX11_addedUp 36 = .ok (.aload_n 0, 1) := by decide +kernel
theorem dX11_addedUp_37 : decode cX11_addedUp 37 = .ok (.getfield 26, 3) := by decide +kernel
theorem dX11_addedUp_40 : decode cX11_addedUp 40 = .ok (.iload_n 1, 1) := by decide +kernel
theorem dX11_addedUp_41 : decode cX11_addedUp 41 = .ok (.iload_n 2, 1) := by decide +kernel
theorem dX11_addedUp_42 : decode cX11_addedUp 42 = .ok (.invokevirtual 264, 3) := by decide +kernel
theorem dX11_addedUp_45 : decode cX11_addedUp 45 = .ok (.istore 4, 2) := by decide +kernel
theorem dX11_addedUp_47 : decode cX11_addedUp 47 = .ok (.iload 4, 2) := by decide +kernel
theorem dX11_addedUp_49 : decode cX11_addedUp 49 = .ok (.ldc 231, 2) := by decide +kernel
theorem dX11_addedUp_51 : decode cX11_addedUp 51 = .ok (.if_icmp .eq 8, 3) := by decide +kernel
theorem dX11_addedUp_54 : decode cX11_addedUp 54 = .ok (.iload_n 3, 1) := by decide +kernel
theorem dX11_addedUp_55 : decode cX11_addedUp 55 = .ok (.iconst 1, 1) := by decide +kernel
theorem dX11_addedUp_56 : decode cX11_addedUp 56 = .ok (.if_icmp .ne 8, 3) := by decide +kernel
theorem dX11_addedUp_59 : decode cX11_addedUp 59 = .ok (.iload 4, 2) := by decide +kernel
theorem dX11_addedUp_61 : decode cX11_addedUp 61 = .ok (.goto 8, 3) := by decide +kernel
theorem dX11_addedUp_64 : decode cX11_addedUp 64 = .ok (.iload 4, 2) := by decide +kernel
theorem dX11_addedUp_66 : decode cX11_addedUp 66 = .ok (.invokestatic 223, 3) := by decide +kernel
theorem dX11_addedUp_69 : decode cX11_addedUp 69 = .ok (.ireturn, 1) := by decide +kernel
theorem dX11_felt_0 : decode cX11_felt 0 = .ok (.aload_n 0, 1) := by decide +kernel
theorem dX11_felt_1 : decode cX11_felt 1 = .ok (.getfield 26, 3) := by decide +kernel
theorem dX11_felt_4 : decode cX11_felt 4 = .ok (.getfield 171, 3) := by decide +kernel
theorem dX11_felt_7 : decode cX11_felt 7 = .ok (.ifCond .ne 6, 3) := by decide +kernel
theorem dX11_felt_10 : decode cX11_felt 10 = .ok (.ldc 133, 2) := by decide +kernel
theorem dX11_felt_12 : decode cX11_felt 12 = .ok (.ireturn, 1) := by decide +kernel
theorem dX11_felt_13 : decode cX11_felt 13 = .ok (.iload_n 1, 1) := by decide +kernel
theorem dX11_felt_14 : decode cX11_felt 14 = .ok (.ifCond .lt 27, 3) := by decide +kernel
theorem dX11_felt_17 : decode cX11_felt 17 = .ok (.iload_n 1, 1) := by decide +kernel
theorem dX11_felt_18 : decode cX11_felt 18 = .ok (.iconst 3, 1) := by decide +kernel
theorem dX11_felt_19 : decode cX11_felt 19 = .ok (.if_icmp .ge 22, 3) := by decide +kernel
theorem dX11_felt_22 : decode cX11_felt 22 = .ok (.iload_n 2, 1) := by decide +kernel
theorem dX11_felt_23 : decode cX11_felt 23 = .ok (.iconst 1, 1) := by decide +kernel
theorem dX11_felt_24 : decode cX11_felt 24 = .ok (.if_icmp .lt 17, 3) := by decide +kernel
theorem dX11_felt_27 : decode cX11_felt 27 = .ok (.iload_n 2, 1) := by decide +kernel
theorem dX11_felt_28 : decode cX11_felt 28 = .ok (.sipush 200, 3) := by decide +kernel
theorem dX11_felt_31 : decode cX11_felt 31 = .ok (.if_icmp .gt 10, 3) := by decide +kernel
theorem dX11_felt_34 : decode cX11_felt 34 = .ok (.iload_n 3, 1) := by decide +kernel
theorem dX11_felt_35 : decode cX11_felt 35 = .ok (.invokestatic 216, 3) := by decide +kernel
theorem dX11_felt_38 : decode cX11_felt 38 = .ok (.ifCond .ne 6, 3) := by decide +kernel
theorem dX11_felt_41 : decode cX11_felt 41 = .ok (.ldc 61, 2) := by decide +kernel
theorem dX11_felt_43 : decode cX11_felt 43 = .ok (.ireturn, 1) := by decide +kernel
theorem dX11_felt_44 : decode cX11_felt 44 = .ok (.aload_n 0, 1) := by decide +kernel
theorem dX11_felt_45 : decode cX11_felt 45 = .ok (.getfield 36, 3) := by decide +kernel
theorem dX11_felt_48 : decode cX11_felt 48 = .ok (.aload_n 0, 1) := by decide +kernel
theorem dX11_felt_49 : decode cX11_felt 49 = .ok (.getfield 26, 3) := by decide +kernel
theorem dX11_felt_52 : decode cX11_felt 52 = .ok (.iload_n 1, 1) := by decide +kernel
theorem dX11_felt_53 : decode cX11_felt 53 = .ok (.iload_n 2, 1) := by decide +kernel
theorem dX11_felt_54 : decode cX11_felt 54 = .ok (.invokevirtual 267, 3) := by decide +kernel
theorem dX11_felt_57 : decode cX11_felt 57 = .ok (.istore 4, 2) := by decide +kernel
theorem dX11_felt_59 : decode cX11_felt 59 = .ok (.iload 4, 2) := by decide +kernel
theorem dX11_felt_61 : decode cX11_felt 61 = .ok (.ldc 231, 2) := by decide +kernel
theorem dX11_felt_63 : decode cX11_felt 63 = .ok (.if_icmp .eq 7, 3) := by decide +kernel
theorem dX11_felt_66 : decode cX11_felt 66 = .ok (.iload_n 3, 1) := by decide +kernel
theorem dX11_felt_67 : decode cX11_felt 67 = .ok (.ifCond .ne 8, 3) := by decide +kernel
theorem dX11_felt_70 : decode cX11_felt 70 = .ok (.iload 4, 2) := by decide +kernel
theorem dX11_felt_72 : decode cX11_felt 72 = .ok (.goto 20, 3) := by decide +kernel
theorem dX11_felt_75 : decode cX11_felt 75 = .ok (.iload 4, 2) := by decide +kernel
theorem dX11_felt_77 : decode cX11_felt 77 = .ok (.iload_n 2, 1) := by decide +kernel
theorem dX11_felt_78 : decode cX11_felt 78 = .ok (.imul, 1) := by decide +kernel
theorem dX11_felt_79 : decode cX11_felt 79 = .ok (.aload_n 0, 1) := by decide +kernel
theorem dX11_felt_80 : decode cX11_felt 80 = .ok (.getfield 36, 3) := by decide +kernel
theorem dX11_felt_83 : decode cX11_felt 83 = .ok (.aload_n 0, 1) := by decide +kernel
theorem dX11_felt_84 : decode cX11_felt 84 = .ok (.getfield 26, 3) := by decide +kernel
theorem dX11_felt_87 : decode cX11_felt 87 = .ok (.iload_n 1, 1) := by decide +kernel
theorem dX11_felt_88 : decode cX11_felt 88 = .ok (.invokevirtual 270, 3) := by decide +kernel
theorem dX11_felt_91 : decode cX11_felt 91 = .ok (.isub, 1) := by decide +kernel
theorem dX11_felt_92 : decode cX11_felt 92 = .ok (.ireturn, 1) := by decide +kernel
theorem dX11_twins_0 : decode cX11_twins 0 = .ok (.aload_n 0, 1) := by decide +kernel
theorem dX11_twins_1 : decode cX11_twins 1 = .ok (.getfield 26, 3) := by decide +kernel
theorem dX11_twins_4 : decode cX11_twins 4 = .ok (.getfield 171, 3) := by decide +kernel
theorem dX11_twins_7 : decode cX11_twins 7 = .ok (.ifCond .ne 6, 3) := by decide +kernel
theorem dX11_twins_10 : decode cX11_twins 10 = .ok (.ldc 133, 2) := by decide +kernel
theorem dX11_twins_12 : decode cX11_twins 12 = .ok (.ireturn, 1) := by decide +kernel
theorem dX11_twins_13 : decode cX11_twins 13 = .ok (.iload_n 1, 1) := by decide +kernel
theorem dX11_twins_14 : decode cX11_twins 14 = .ok (.iconst (-1), 1) := by decide +kernel
theorem dX11_twins_15 : decode cX11_twins 15 = .ok (.if_icmp .eq 17, 3) := by decide +kernel
theorem dX11_twins_18 : decode cX11_twins 18 = .ok (.aload_n 0, 1) := by decide +kernel
theorem dX11_twins_19 : decode cX11_twins 19 = .ok (.getfield 26, 3) := by decide +kernel
theorem dX11_twins_22 : decode cX11_twins 22 = .ok (.iload_n 1, 1) := by decide +kernel
theorem dX11_twins_23 : decode cX11_twins 23 = .ok (.invokevirtual 179, 3) := by decide +kernel
theorem dX11_twins_26 : decode cX11_twins 26 = .ok (.ifCond .ne 6, 3) := by decide +kernel
theorem dX11_twins_29 : decode cX11_twins 29 = .ok (.ldc 61, 2) := by decide +kernel
theorem dX11_twins_31 : decode cX11_twins 31 = .ok (.ireturn, 1) := by decide +kernel
theorem dX11_twins_32 : decode cX11_twins 32 = .ok (.aload_n 0, 1) := by decide +kernel
theorem dX11_twins_33 : decode cX11_twins 33 = .ok (.getfield 36, 3) := by decide +kernel
theorem dX11_twins_36 : decode cX11_twins 36 = .ok (.aload_n 0, 1) := by decide +kernel
theorem dX11_twins_37 : decode cX11_twins 37 = .ok (.getfield 26, 3) := by decide +kernel
theorem dX11_twins_40 : decode cX11_twins 40 = .ok (.invokevirtual 274, 3) := by decide +kernel
theorem dX11_twins_43 : decode cX11_twins 43 = .ok (.istore_n 2, 1) := by decide +kernel
theorem dX11_twins_44 : decode cX11_twins 44 = .ok (.iload_n 1, 1) := by decide +kernel
theorem dX11_twins_45 : decode cX11_twins 45 = .ok (.iconst (-1), 1) := by decide +kernel
theorem dX11_twins_46 : decode cX11_twins 46 = .ok (.if_icmp .ne 16, 3) := by decide +kernel
theorem dX11_twins_49 : decode cX11_twins 49 = .ok (.aload_n 0, 1) := by decide +kernel
theorem dX11_twins_50 : decode cX11_twins 50 = .ok (.getfield 36, 3) := by decide +kernel
theorem dX11_twins_53 : decode cX11_twins 53 = .ok (.aload_n 0, 1) := by decide +kernel
theorem dX11_twins_54 : decode cX11_twins 54 = .ok (.getfield 26, 3) := by decide +kernel
theorem dX11_twins_57 : decode cX11_twins 57 = .ok (.iload_n 2, 1) := by decide +kernel
theorem dX11_twins_58 : decode cX11_twins 58 = .ok (.invokevirtual 278, 3) := by decide +kernel
theorem dX11_twins_61 : decode cX11_twins 61 = .ok (.ireturn, 1) := by decide +kernel
theorem dX11_twins_62 : decode cX11_twins 62 = .ok (.aload_n 0, 1) := by decide +kernel
theorem dX11_twins_63 : decode cX11_twins 63 = .ok (.getfield 36, 3) := by decide +kernel
theorem dX11_twins_66 : decode cX11_twins 66 = .ok (.aload_n 0, 1) := by decide +kernel
theorem dX11_twins_67 : decode cX11_twins 67 = .ok (.getfield 26, 3) := by decide +kernel
theorem dX11_twins_70 : decode cX11_twins 70 = .ok (.iload_n 2, 1) := by decide +kernel
theorem dX11_twins_71 : decode cX11_twins 71 = .ok (.iload_n 1, 1) := by decide +kernel
theorem dX11_twins_72 : decode cX11_twins 72 = .ok (.invokevirtual 281, 3) := by decide +kernel
theorem dX11_twins_75 : decode cX11_twins 75 = .ok (.ireturn, 1) := by decide +kernel
theorem dX11_image_0 : decode cX11_image 0 = .ok (.iload_n 1, 1) := by decide +kernel
theorem dX11_image_1 : decode cX11_image 1 = .ok (.invokestatic 250, 3) := by decide +kernel
theorem dX11_image_4 : decode cX11_image 4 = .ok (.ifCond .ne 6, 3) := by decide +kernel
theorem dX11_image_7 : decode cX11_image 7 = .ok (.ldc 61, 2) := by decide +kernel
theorem dX11_image_9 : decode cX11_image 9 = .ok (.ireturn, 1) := by decide +kernel
theorem dX11_image_10 : decode cX11_image 10 = .ok (.aload_n 0, 1) := by decide +kernel
theorem dX11_image_11 : decode cX11_image 11 = .ok (.getfield 26, 3) := by decide +kernel
theorem dX11_image_14 : decode cX11_image 14 = .ok (.getfield 171, 3) := by decide +kernel
theorem dX11_image_17 : decode cX11_image 17 = .ok (.ifCond .ne 6, 3) := by decide +kernel
theorem dX11_image_20 : decode cX11_image 20 = .ok (.ldc 133, 2) := by decide +kernel
theorem dX11_image_22 : decode cX11_image 22 = .ok (.ireturn, 1) := by decide +kernel
theorem dX11_image_23 : decode cX11_image 23 = .ok (.aload_n 0, 1) := by decide +kernel
theorem dX11_image_24 : decode cX11_image 24 = .ok (.getfield 47, 3) := by decide +kernel
theorem dX11_image_27 : decode cX11_image 27 = .ok (.iload_n 1, 1) := by decide +kernel
theorem dX11_image_28 : decode cX11_image 28 = .ok (.aload_n 0, 1) := by decide +kernel
theorem dX11_image_29 : decode cX11_image 29 = .ok (.aload_n 0, 1) := by decide +kernel
theorem dX11_image_30 : decode cX11_image 30 = .ok (.getfield 47, 3) := by decide +kernel
theorem dX11_image_33 : decode cX11_image 33 = .ok (.iload_n 1, 1) := by decide +kernel
theorem dX11_image_34 : decode cX11_image 34 = .ok (.aaload, 1) := by decide +kernel
theorem dX11_image_35 : decode cX11_image 35 = .ok (.invokevirtual 284, 3) := by decide +kernel
theorem dX11_image_38 : decode cX11_image 38 = .ok (.aastore, 1) := by decide +kernel
theorem dX11_image_39 : decode cX11_image 39 = .ok (.iconst 1, 1) := by decide +kernel
theorem dX11_image_40 : decode cX11_image 40 = .ok (.ireturn, 1) := by decide +kernel
theorem dX11_restore_0 : decode cX11_restore 0 = .ok (.iload_n 1, 1) := by decide +kernel
theorem dX11_restore_1 : decode cX11_restore 1 = .ok (.invokestatic 250, 3) := by decide +kernel
theorem dX11_restore_4 : decode cX11_restore 4 = .ok (.ifCond .ne 6, 3) := by decide +kernel
theorem dX11_restore_7 : decode cX11_restore 7 = .ok (.ldc 61, 2) := by decide +kernel
theorem dX11_restore_9 : decode cX11_restore 9 = .ok (.ireturn, 1) := by decide +kernel
theorem dX11_restore_10 : decode cX11_restore 10 = .ok (.aload_n 0, 1) := by decide +kernel
theorem dX11_restore_11 : decode cX11_restore 11 = .ok (.getfield 47, 3) := by decide +kernel
theorem dX11_restore_14 : decode cX11_restore 14 = .ok (.iload_n 1, 1) := by decide +kernel
theorem dX11_restore_15 : decode cX11_restore 15 = .ok (.aaload, 1) := by decide +kernel
theorem dX11_restore_16 : decode cX11_restore 16 = .ok (.astore_n 2, 1) := by decide +kernel
theorem dX11_restore_17 : decode cX11_restore 17 = .ok (.aload_n 2, 1) := by decide +kernel
theorem dX11_restore_18 : decode cX11_restore 18 = .ok (.ifnonnull 6, 3) := by decide +kernel
theorem dX11_restore_21 : decode cX11_restore 21 = .ok (.ldc 133, 2) := by decide +kernel
theorem dX11_restore_23 : decode cX11_restore 23 = .ok (.ireturn, 1) := by decide +kernel
theorem dX11_restore_24 : decode cX11_restore 24 = .ok (.aload_n 0, 1) := by decide +kernel
theorem dX11_restore_25 : decode cX11_restore 25 = .ok (.getfield 26, 3) := by decide +kernel
theorem dX11_restore_28 : decode cX11_restore 28 = .ok (.aload_n 2, 1) := by decide +kernel
theorem dX11_restore_29 : decode cX11_restore 29 = .ok (.invokevirtual 120, 3) := by decide +kernel
theorem dX11_restore_32 : decode cX11_restore 32 = .ok (.aload_n 0, 1) := by decide +kernel
theorem dX11_restore_33 : decode cX11_restore 33 = .ok (.iconst 0, 1) := by decide +kernel
theorem dX11_restore_34 : decode cX11_restore 34 = .ok (.putfield 124, 3) := by decide +kernel
theorem dX11_restore_37 : decode cX11_restore 37 = .ok (.iconst 1, 1) := by decide +kernel
theorem dX11_restore_38 : decode cX11_restore 38 = .ok (.ireturn, 1) := by decide +kernel
theorem dX11_kind_0 : decode cX11_kind 0 = .ok (.aload_n 0, 1) := by decide +kernel
theorem dX11_kind_1 : decode cX11_kind 1 = .ok (.getfield 26, 3) := by decide +kernel
theorem dX11_kind_4 : decode cX11_kind 4 = .ok (.iload_n 1, 1) := by decide +kernel
theorem dX11_kind_5 : decode cX11_kind 5 = .ok (.invokevirtual 134, 3) := by decide +kernel
theorem dX11_kind_8 : decode cX11_kind 8 = .ok (.astore_n 2, 1) := by decide +kernel
theorem dX11_kind_9 : decode cX11_kind 9 = .ok (.aload_n 2, 1) := by decide +kernel
theorem dX11_kind_10 : decode cX11_kind 10 = .ok (.ifnonnull 8, 3) := by decide +kernel
theorem dX11_kind_13 : decode cX11_kind 13 = .ok (.ldc 61, 2) := by decide +kernel
theorem dX11_kind_15 : decode cX11_kind 15 = .ok (.goto 7, 3) := by decide +kernel
theorem dX11_kind_18 : decode cX11_kind 18 = .ok (.aload_n 2, 1) := by decide +kernel
theorem dX11_kind_19 : decode cX11_kind 19 = .ok (.invokevirtual 288, 3) := by decide +kernel
theorem dX11_kind_22 : decode cX11_kind 22 = .ok (.ireturn, 1) := by decide +kernel
theorem dX11_as_0 : decode cX11_as 0 = .ok (.aload_n 0, 1) := by decide +kernel
theorem dX11_as_1 : decode cX11_as 1 = .ok (.getfield 26, 3) := by decide +kernel
theorem dX11_as_4 : decode cX11_as 4 = .ok (.iload_n 1, 1) := by decide +kernel
theorem dX11_as_5 : decode cX11_as 5 = .ok (.invokevirtual 134, 3) := by decide +kernel
theorem dX11_as_8 : decode cX11_as 8 = .ok (.astore_n 3, 1) := by decide +kernel
theorem dX11_as_9 : decode cX11_as 9 = .ok (.aload_n 3, 1) := by decide +kernel
theorem dX11_as_10 : decode cX11_as 10 = .ok (.ifnull 12, 3) := by decide +kernel
theorem dX11_as_13 : decode cX11_as 13 = .ok (.iload_n 2, 1) := by decide +kernel
theorem dX11_as_14 : decode cX11_as 14 = .ok (.ifCond .lt 8, 3) := by decide +kernel
theorem dX11_as_17 : decode cX11_as 17 = .ok (.iload_n 2, 1) := by decide +kernel
theorem dX11_as_18 : decode cX11_as 18 = .ok (.iconst 5, 1) := by decide +kernel
theorem dX11_as_19 : decode cX11_as 19 = .ok (.if_icmp .le 6, 3) := by decide +kernel
theorem dX11_as_22 : decode cX11_as 22 = .ok (.ldc 61, 2) := by decide +kernel
theorem dX11_as_24 : decode cX11_as 24 = .ok (.ireturn, 1) := by decide +kernel
theorem dX11_as_25 : decode cX11_as 25 = .ok (.aload_n 3, 1) := by decide +kernel
theorem dX11_as_26 : decode cX11_as 26 = .ok (.iload_n 2, 1) := by decide +kernel
theorem dX11_as_27 : decode cX11_as 27 = .ok (.invokestatic 291, 3) := by decide +kernel
theorem dX11_as_30 : decode cX11_as 30 = .ok (.ifCond .eq 14, 3) := by decide +kernel
theorem dX11_as_33 : decode cX11_as 33 = .ok (.aload_n 0, 1) := by decide +kernel
theorem dX11_as_34 : decode cX11_as 34 = .ok (.aload_n 3, 1) := by decide +kernel
theorem dX11_as_35 : decode cX11_as 35 = .ok (.getfield 295, 3) := by decide +kernel
theorem dX11_as_38 : decode cX11_as 38 = .ok (.invokevirtual 70, 3) := by decide +kernel
theorem dX11_as_41 : decode cX11_as 41 = .ok (.goto 8, 3) := by decide +kernel
theorem dX11_as_44 : decode cX11_as 44 = .ok (.aload_n 0, 1) := by decide +kernel
theorem dX11_as_45 : decode cX11_as 45 = .ok (.iconst 3, 1) := by decide +kernel
theorem dX11_as_46 : decode cX11_as 46 = .ok (.invokevirtual 62, 3) := by decide +kernel
theorem dX11_as_49 : decode cX11_as 49 = .ok (.ireturn, 1) := by decide +kernel
theorem dX11_ask_0 : decode cX11_ask 0 = .ok (.aload_n 0, 1) := by decide +kernel
theorem dX11_ask_1 : decode cX11_ask 1 = .ok (.getfield 26, 3) := by decide +kernel
theorem dX11_ask_4 : decode cX11_ask 4 = .ok (.iload_n 1, 1) := by decide +kernel
theorem dX11_ask_5 : decode cX11_ask 5 = .ok (.invokevirtual 134, 3) := by decide +kernel
theorem dX11_ask_8 : decode cX11_ask 8 = .ok (.astore_n 3, 1) := by decide +kernel
theorem dX11_ask_9 : decode cX11_ask 9 = .ok (.aload_n 3, 1) := by decide +kernel
theorem dX11_ask_10 : decode cX11_ask 10 = .ok (.ifnull 10, 3) := by decide +kernel
theorem dX11_ask_13 : decode cX11_ask 13 = .ok (.iload_n 2, 1) := by decide +kernel
theorem dX11_ask_14 : decode cX11_ask 14 = .ok (.invokestatic 216, 3) := by decide +kernel
theorem dX11_ask_17 : decode cX11_ask 17 = .ok (.ifCond .ne 6, 3) := by decide +kernel
theorem dX11_ask_20 : decode cX11_ask 20 = .ok (.ldc 61, 2) := by decide +kernel
theorem dX11_ask_22 : decode cX11_ask 22 = .ok (.ireturn, 1) := by decide +kernel
theorem dX11_ask_23 : decode cX11_ask 23 = .ok (.aload_n 0, 1) := by decide +kernel
theorem dX11_ask_24 : decode cX11_ask 24 = .ok (.getfield 43, 3) := by decide +kernel
theorem dX11_ask_27 : decode cX11_ask 27 = .ok (.aload_n 0, 1) := by decide +kernel
theorem dX11_ask_28 : decode cX11_ask 28 = .ok (.getfield 26, 3) := by decide +kernel
theorem dX11_ask_31 : decode cX11_ask 31 = .ok (.iload_n 1, 1) := by decide +kernel
theorem dX11_ask_32 : decode cX11_ask 32 = .ok (.invokevirtual 298, 3) := by decide +kernel
theorem dX11_ask_35 : decode cX11_ask 35 = .ok (.invokevirtual 301, 3) := by decide +kernel
theorem dX11_ask_38 : decode cX11_ask 38 = .ok (.iload_n 2, 1) := by decide +kernel
theorem dX11_ask_39 : decode cX11_ask 39 = .ok (.ifCond .ne 14, 3) := by decide +kernel
theorem dX11_ask_42 : decode cX11_ask 42 = .ok (.aload_n 3, 1) := by decide +kernel
theorem dX11_ask_43 : decode cX11_ask 43 = .ok (.aload_n 0, 1) := by decide +kernel
theorem dX11_ask_44 : decode cX11_ask 44 = .ok (.getfield 43, 3) := by decide +kernel
theorem dX11_ask_47 : decode cX11_ask 47 = .ok (.invokevirtual 304, 3) := by decide +kernel
theorem dX11_ask_50 : decode cX11_ask 50 = .ok (.goto 11, 3) := by decide +kernel
theorem dX11_ask_53 : decode cX11_ask 53 = .ok (.aload_n 3, 1) := by decide +kernel
theorem dX11_ask_54 : decode cX11_ask 54 = .ok (.aload_n 0, 1) := by decide +kernel
theorem dX11_ask_55 : decode cX11_ask 55 = .ok (.getfield 43, 3) := by decide +kernel
theorem dX11_ask_58 : decode cX11_ask 58 = .ok (.invokevirtual 308, 3) := by decide +kernel
theorem dX11_ask_61 : decode cX11_ask 61 = .ok (.ireturn, 1) := by decide +kernel
theorem dX11_trace_0 : decode cX11_trace 0 = .ok (.aload_n 0, 1) := by decide +kernel
theorem dX11_trace_1 : decode cX11_trace 1 = .ok (.getfield 43, 3) := by decide +kernel
theorem dX11_trace_4 : decode cX11_trace 4 = .ok (.iload_n 1, 1) := by decide +kernel
theorem dX11_trace_5 : decode cX11_trace 5 = .ok (.invokevirtual 311, 3) := by decide +kernel
theorem dX11_trace_8 : decode cX11_trace 8 = .ok (.ireturn, 1) := by decide +kernel
theorem dX11_count_0 : decode cX11_count 0 = .ok (.iload_n 1, 1) := by decide +kernel
theorem dX11_count_1 : decode cX11_count 1 = .ok (.tableswitch 96 0 6 #[43, 51, 59, 67, 75, 83, 88], 43) := by decide +kernel
theorem dX11_count_44 : decode cX11_count 44 = .ok (.aload_n 0, 1) := by decide +kernel
theorem dX11_count_45 : decode cX11_count 45 = .ok (.getfield 10, 3) := by decide +kernel
theorem dX11_count_48 : decode cX11_count 48 = .ok (.invokevirtual 314, 3) := by decide +kernel
theorem dX11_count_51 : decode cX11_count 51 = .ok (.ireturn, 1) := by decide +kernel
theorem dX11_count_52 : decode cX11_count 52 = .ok (.aload_n 0, 1) := by decide +kernel
theorem dX11_count_53 : decode cX11_count 53 = .ok (.getfield 26, 3) := by decide +kernel
theorem dX11_count_56 : decode cX11_count 56 = .ok (.getfield 127, 3) := by decide +kernel
theorem dX11_count_59 : decode cX11_count 59 = .ok (.ireturn, 1) := by decide +kernel
theorem dX11_count_60 : decode cX11_count 60 = .ok (.aload_n 0, 1) := by decide +kernel
theorem dX11_count_61 : decode cX11_count 61 = .ok (.getfield 26, 3) := by decide +kernel
theorem dX11_count_64 : decode cX11_count 64 = .ok (.getfield 317, 3) := by decide +kernel
theorem dX11_count_67 : decode cX11_count 67 = .ok (.ireturn, 1) := by decide +kernel
theorem dX11_count_68 : decode cX11_count 68 = .ok (.aload_n 0, 1) := by decide +kernel
theorem dX11_count_69 : decode cX11_count 69 = .ok (.getfield 26, 3) := by decide +kernel
theorem dX11_count_72 : decode cX11_count 72 = .ok (.getfield 194, 3) := by decide +kernel
theorem dX11_count_75 : decode cX11_count 75 = .ok (.ireturn, 1) := by decide +kernel
theorem dX11_count_76 : decode cX11_count 76 = .ok (.aload_n 0, 1) := by decide +kernel
theorem dX11_count_77 : decode cX11_count 77 = .ok (.getfield 26, 3) := by decide +kernel
theorem dX11_count_80 : decode cX11_count 80 = .ok (.invokevirtual 320, 3) := by decide +kernel
theorem dX11_count_83 : decode cX11_count 83 = .ok (.ireturn, 1) := by decide +kernel
theorem dX11_count_84 : decode cX11_count 84 = .ok (.aload_n 0, 1) := by decide +kernel
theorem dX11_count_85 : decode cX11_count 85 = .ok (.getfield 124, 3) := by decide +kernel
theorem dX11_count_88 : decode cX11_count 88 = .ok (.ireturn, 1) := by decide +kernel
theorem dX11_count_89 : decode cX11_count 89 = .ok (.aload_n 0, 1) := by decide +kernel
theorem dX11_count_90 : decode cX11_count 90 = .ok (.getfield 19, 3) := by decide +kernel
theorem dX11_count_93 : decode cX11_count 93 = .ok (.getfield 106, 3) := by decide +kernel
theorem dX11_count_96 : decode cX11_count 96 = .ok (.ireturn, 1) := by decide +kernel
theorem dX11_count_97 : decode cX11_count 97 = .ok (.ldc 61, 2) := by decide +kernel
theorem dX11_count_99 : decode cX11_count 99 = .ok (.ireturn, 1) := by decide +kernel
theorem dX11_status_0 : decode cX11_status 0 = .ok (.aload_n 0, 1) := by decide +kernel
theorem dX11_status_1 : decode cX11_status 1 = .ok (.getfield 323, 3) := by decide +kernel
theorem dX11_status_4 : decode cX11_status 4 = .ok (.ireturn, 1) := by decide +kernel
theorem dX11_found_0 : decode cX11_found 0 = .ok (.aload_n 0, 1) := by decide +kernel
theorem dX11_found_1 : decode cX11_found 1 = .ok (.iload_n 1, 1) := by decide +kernel
theorem dX11_found_2 : decode cX11_found 2 = .ok (.putfield 323, 3) := by decide +kernel
theorem dX11_found_5 : decode cX11_found 5 = .ok (.ldc_w 326, 3) := by decide +kernel
theorem dX11_found_8 : decode cX11_found 8 = .ok (.iload_n 1, 1) := by decide +kernel
theorem dX11_found_9 : decode cX11_found 9 = .ok (.isub, 1) := by decide +kernel
theorem dX11_found_10 : decode cX11_found 10 = .ok (.ireturn, 1) := by decide +kernel
theorem dX11_answered_0 : decode cX11_answered 0 = .ok (.aload_n 0, 1) := by decide +kernel
theorem dX11_answered_1 : decode cX11_answered 1 = .ok (.iconst 0, 1) := by decide +kernel
theorem dX11_answered_2 : decode cX11_answered 2 = .ok (.putfield 323, 3) := by decide +kernel
theorem dX11_answered_5 : decode cX11_answered 5 = .ok (.iload_n 1, 1) := by decide +kernel
theorem dX11_answered_6 : decode cX11_answered 6 = .ok (.ireturn, 1) := by decide +kernel
theorem dX11_keepAct_0 : decode cX11_keepAct 0 = .ok (.aload_n 0, 1) := by decide +kernel
theorem dX11_keepAct_1 : decode cX11_keepAct 1 = .ok (.aload_n 0, 1) := by decide +kernel
theorem dX11_keepAct_2 : decode cX11_keepAct 2 = .ok (.getfield 130, 3) := by decide +kernel
theorem dX11_keepAct_5 : decode cX11_keepAct 5 = .ok (.iconst 1, 1) := by decide +kernel
theorem dX11_keepAct_6 : decode cX11_keepAct 6 = .ok (.iadd, 1) := by decide +kernel
theorem dX11_keepAct_7 : decode cX11_keepAct 7 = .ok (.bipush 24, 2) := by decide +kernel
theorem dX11_keepAct_9 : decode cX11_keepAct 9 = .ok (.irem, 1) := by decide +kernel
theorem dX11_keepAct_10 : decode cX11_keepAct 10 = .ok (.putfield 130, 3) := by decide +kernel
theorem dX11_keepAct_13 : decode cX11_keepAct 13 = .ok (.aload_n 0, 1) := by decide +kernel
theorem dX11_keepAct_14 : decode cX11_keepAct 14 = .ok (.getfield 51, 3) := by decide +kernel
theorem dX11_keepAct_17 : decode cX11_keepAct 17 = .ok (.aload_n 0, 1) := by decide +kernel
theorem dX11_keepAct_18 : decode cX11_keepAct 18 = .ok (.getfield 130, 3) := by decide +kernel
theorem dX11_keepAct_21 : decode cX11_keepAct 21 = .ok (.aload_n 0, 1) := by decide +kernel
theorem dX11_keepAct_22 : decode cX11_keepAct 22 = .ok (.aload_n 0, 1) := by decide +kernel
theorem dX11_keepAct_23 : decode cX11_keepAct 23 = .ok (.getfield 51, 3) := by decide +kernel
theorem dX11_keepAct_26 : decode cX11_keepAct 26 = .ok (.aload_n 0, 1) := by decide +kernel
theorem dX11_keepAct_27 : decode cX11_keepAct 27 = .ok (.getfield 130, 3) := by decide +kernel
theorem dX11_keepAct_30 : decode cX11_keepAct 30 = .ok (.aaload, 1) := by decide +kernel
theorem dX11_keepAct_31 : decode cX11_keepAct 31 = .ok (.invokevirtual 284, 3) := by decide +kernel
theorem dX11_keepAct_34 : decode cX11_keepAct 34 = .ok (.aastore, 1) := by decide +kernel
theorem dX11_keepAct_35 : decode cX11_keepAct 35 = .ok (.aload_n 0, 1) := by decide +kernel
theorem dX11_keepAct_36 : decode cX11_keepAct 36 = .ok (.aload_n 0, 1) := by decide +kernel
theorem dX11_keepAct_37 : decode cX11_keepAct 37 = .ok (.getfield 124, 3) := by decide +kernel
theorem dX11_keepAct_40 : decode cX11_keepAct 40 = .ok (.iconst 1, 1) := by decide +kernel
theorem dX11_keepAct_41 : decode cX11_keepAct 41 = .ok (.iadd, 1) := by decide +kernel
theorem dX11_keepAct_42 : decode cX11_keepAct 42 = .ok (.bipush 24, 2) := by decide +kernel
theorem dX11_keepAct_44 : decode cX11_keepAct 44 = .ok (.invokestatic 182, 3) := by decide +kernel
theorem dX11_keepAct_47 : decode cX11_keepAct 47 = .ok (.putfield 124, 3) := by decide +kernel
theorem dX11_keepAct_50 : decode cX11_keepAct 50 = .ok (.return_, 1) := by decide +kernel
theorem dX11_copyOver_0 : decode cX11_copyOver 0 = .ok (.aload_n 1, 1) := by decide +kernel
theorem dX11_copyOver_1 : decode cX11_copyOver 1 = .ok (.ifnonnull 13, 3) := by decide +kernel
theorem dX11_copyOver_4 : decode cX11_copyOver 4 = .ok (.new 23, 3) := by decide +kernel
theorem dX11_copyOver_7 : decode cX11_copyOver 7 = .ok (.dup, 1) := by decide +kernel
theorem dX11_copyOver_8 : decode cX11_copyOver 8 = .ok (.invokespecial 25, 3) := by decide +kernel
theorem dX11_copyOver_11 : decode cX11_copyOver 11 = .ok (.goto 4, 3) := by decide +kernel
theorem dX11_copyOver_14 : decode cX11_copyOver 14 = .ok (.aload_n 1, 1) := by decide +kernel
theorem dX11_copyOver_15 : decode cX11_copyOver 15 = .ok (.astore_n 2, 1) := by decide +kernel
theorem dX11_copyOver_16 : decode cX11_copyOver 16 = .ok (.aload_n 2, 1) := by decide +kernel
theorem dX11_copyOver_17 : decode cX11_copyOver 17 = .ok (.aload_n 0, 1) := by decide +kernel
theorem dX11_copyOver_18 : decode cX11_copyOver 18 = .ok (.getfield 26, 3) := by decide +kernel
theorem dX11_copyOver_21 : decode cX11_copyOver 21 = .ok (.invokevirtual 120, 3) := by decide +kernel
theorem dX11_copyOver_24 : decode cX11_copyOver 24 = .ok (.aload_n 2, 1) := by decide +kernel
theorem dX11_copyOver_25 : decode cX11_copyOver 25 = .ok (.areturn, 1) := by decide +kernel
theorem dX11_isTold_0 : decode cX11_isTold 0 = .ok (.iload_n 0, 1) := by decide +kernel
theorem dX11_isTold_1 : decode cX11_isTold 1 = .ok (.bipush (-99), 2) := by decide +kernel
theorem dX11_isTold_3 : decode cX11_isTold 3 = .ok (.if_icmp .lt 13, 3) := by decide +kernel
theorem dX11_isTold_6 : decode cX11_isTold 6 = .ok (.iload_n 0, 1) := by decide +kernel
theorem dX11_isTold_7 : decode cX11_isTold 7 = .ok (.bipush 99, 2) := by decide +kernel
theorem dX11_isTold_9 : decode cX11_isTold 9 = .ok (.if_icmp .gt 7, 3) := by decide +kernel
theorem dX11_isTold_12 : decode cX11_isTold 12 = .ok (.iconst 1, 1) := by decide +kernel
theorem dX11_isTold_13 : decode cX11_isTold 13 = .ok (.goto 4, 3) := by decide +kernel
theorem dX11_isTold_16 : decode cX11_isTold 16 = .ok (.iconst 0, 1) := by decide +kernel
theorem dX11_isTold_17 : decode cX11_isTold 17 = .ok (.ireturn, 1) := by decide +kernel
theorem dX11_isFirstOrSecond_0 : decode cX11_isFirstOrSecond 0 = .ok (.iload_n 0, 1) := by decide +kernel
theorem dX11_isFirstOrSecond_1 : decode cX11_isFirstOrSecond 1 = .ok (.ifCond .eq 8, 3) := by decide +kernel
theorem dX11_isFirstOrSecond_4 : decode cX11_isFirstOrSecond 4 = .ok (.iload_n 0, 1) := by decide +kernel
theorem dX11_isFirstOrSecond_5 : decode cX11_isFirstOrSecond 5 = .ok (.iconst 1, 1) := by decide +kernel
theorem dX11_isFirstOrSecond_6 : decode cX11_isFirstOrSecond 6 = .ok (.if_icmp .ne 7, 3) := by decide +kernel
theorem dX11_isFirstOrSecond_9 : decode cX11_isFirstOrSecond 9 = .ok (.iconst 1, 1) := by decide +kernel
theorem dX11_isFirstOrSecond_10 : decode cX11_isFirstOrSecond 10 = .ok (.goto 4, 3) := by decide +kernel
theorem dX11_isFirstOrSecond_13 : decode cX11_isFirstOrSecond 13 = .ok (.iconst 0, 1) := by decide +kernel
theorem dX11_isFirstOrSecond_14 : decode cX11_isFirstOrSecond 14 = .ok (.ireturn, 1) := by decide +kernel
theorem dX11_isImage_0 : decode cX11_isImage 0 = .ok (.iload_n 0, 1) := by decide +kernel
theorem dX11_isImage_1 : decode cX11_isImage 1 = .ok (.ifCond .lt 12, 3) := by decide +kernel
theorem dX11_isImage_4 : decode cX11_isImage 4 = .ok (.iload_n 0, 1) := by decide +kernel
theorem dX11_isImage_5 : decode cX11_isImage 5 = .ok (.iconst 2, 1) := by decide +kernel
theorem dX11_isImage_6 : decode cX11_isImage 6 = .ok (.if_icmp .ge 7, 3) := by decide +kernel
theorem dX11_isImage_9 : decode cX11_isImage 9 = .ok (.iconst 1, 1) := by decide +kernel
theorem dX11_isImage_10 : decode cX11_isImage 10 = .ok (.goto 4, 3) := by decide +kernel
theorem dX11_isImage_13 : decode cX11_isImage 13 = .ok (.iconst 0, 1) := by decide +kernel
theorem dX11_isImage_14 : decode cX11_isImage 14 = .ok (.ireturn, 1) := by decide +kernel
theorem dX11_isOne_0 : decode cX11_isOne 0 = .ok (.iload_n 1, 1) := by decide +kernel
theorem dX11_isOne_1 : decode cX11_isOne 1 = .ok (.tableswitch 60 1 5 #[35, 40, 45, 50, 55], 35) := by decide +kernel
theorem dX11_isOne_36 : decode cX11_isOne 36 = .ok (.aload_n 0, 1) := by decide +kernel
theorem dX11_isOne_37 : decode cX11_isOne 37 = .ok (.instanceof 327, 3) := by decide +kernel
theorem dX11_isOne_40 : decode cX11_isOne 40 = .ok (.ireturn, 1) := by decide +kernel
theorem dX11_isOne_41 : decode cX11_isOne 41 = .ok (.aload_n 0, 1) := by decide +kernel
theorem dX11_isOne_42 : decode cX11_isOne 42 = .ok (.instanceof 329, 3) := by decide +kernel
theorem dX11_isOne_45 : decode cX11_isOne 45 = .ok (.ireturn, 1) := by decide +kernel
theorem dX11_isOne_46 : decode cX11_isOne 46 = .ok (.aload_n 0, 1) := by decide +kernel
theorem dX11_isOne_47 : decode cX11_isOne 47 = .ok (.instanceof 331, 3) := by decide +kernel
theorem dX11_isOne_50 : decode cX11_isOne 50 = .ok (.ireturn, 1) := by decide +kernel
theorem dX11_isOne_51 : decode cX11_isOne 51 = .ok (.aload_n 0, 1) := by decide +kernel
theorem dX11_isOne_52 : decode cX11_isOne 52 = .ok (.instanceof 333, 3) := by decide +kernel
theorem dX11_isOne_55 : decode cX11_isOne 55 = .ok (.ireturn, 1) := by decide +kernel
theorem dX11_isOne_56 : decode cX11_isOne 56 = .ok (.aload_n 0, 1) := by decide +kernel
theorem dX11_isOne_57 : decode cX11_isOne 57 = .ok (.instanceof 335, 3) := by decide +kernel
theorem dX11_isOne_60 : decode cX11_isOne 60 = .ok (.ireturn, 1) := by decide +kernel
theorem dX11_isOne_61 : decode cX11_isOne 61 = .ok (.iconst 1, 1) := by decide +kernel
theorem dX11_isOne_62 : decode cX11_isOne 62 = .ok (.ireturn, 1) := by decide +kernel
theorem dJ6_bitCount_0f7a4_0 : decode cJ6_bitCount_0f7a4 0 = .ok (.iload_n 0, 1) := by decide +kernel
theorem dJ6_bitCount_0f7a4_1 : decode cJ6_bitCount_0f7a4 1 = .ok (.iload_n 0, 1) := by decide +kernel
theorem dJ6_bitCount_0f7a4_2 : decode cJ6_bitCount_0f7a4 2 = .ok (.iconst 1, 1) := by decide +kernel
theorem dJ6_bitCount_0f7a4_3 : decode cJ6_bitCount_0f7a4 3 = .ok (.iushr, 1) := by decide +kernel
theorem dJ6_bitCount_0f7a4_4 : decode cJ6_bitCount_0f7a4 4 = .ok (.ldc_w 265, 3) := by decide +kernel
theorem dJ6_bitCount_0f7a4_7 : decode cJ6_bitCount_0f7a4 7 = .ok (.iand, 1) := by decide +kernel
theorem dJ6_bitCount_0f7a4_8 : decode cJ6_bitCount_0f7a4 8 = .ok (.isub, 1) := by decide +kernel
theorem dJ6_bitCount_0f7a4_9 : decode cJ6_bitCount_0f7a4 9 = .ok (.istore_n 0, 1) := by decide +kernel
theorem dJ6_bitCount_0f7a4_10 : decode cJ6_bitCount_0f7a4 10 = .ok (.iload_n 0, 1) := by decide +kernel
theorem dJ6_bitCount_0f7a4_11 : decode cJ6_bitCount_0f7a4 11 = .ok (.ldc_w 266, 3) := by decide +kernel
theorem dJ6_bitCount_0f7a4_14 : decode cJ6_bitCount_0f7a4 14 = .ok (.iand, 1) := by decide +kernel
theorem dJ6_bitCount_0f7a4_15 : decode cJ6_bitCount_0f7a4 15 = .ok (.iload_n 0, 1) := by decide +kernel
theorem dJ6_bitCount_0f7a4_16 : decode cJ6_bitCount_0f7a4 16 = .ok (.iconst 2, 1) := by decide +kernel
theorem dJ6_bitCount_0f7a4_17 : decode cJ6_bitCount_0f7a4 17 = .ok (.iushr, 1) := by decide +kernel
theorem dJ6_bitCount_0f7a4_18 : decode cJ6_bitCount_0f7a4 18 = .ok (.ldc_w 266, 3) := by decide +kernel
theorem dJ6_bitCount_0f7a4_21 : decode cJ6_bitCount_0f7a4 21 = .ok (.iand, 1) := by decide +kernel
theorem dJ6_bitCount_0f7a4_22 : decode cJ6_bitCount_0f7a4 22 = .ok (.iadd, 1) := by decide +kernel
theorem dJ6_bitCount_0f7a4_23 : decode cJ6_bitCount_0f7a4 23 = .ok (.istore_n 0, 1) := by decide +kernel
theorem dJ6_bitCount_0f7a4_24 : decode cJ6_bitCount_0f7a4 24 = .ok (.iload_n 0, 1) := by decide +kernel
theorem dJ6_bitCount_0f7a4_25 : decode cJ6_bitCount_0f7a4 25 = .ok (.iload_n 0, 1) := by decide +kernel
theorem dJ6_bitCount_0f7a4_26 : decode cJ6_bitCount_0f7a4 26 = .ok (.iconst 4, 1) := by decide +kernel
theorem dJ6_bitCount_0f7a4_27 : decode cJ6_bitCount_0f7a4 27 = .ok (.iushr, 1) := by decide +kernel
theorem dJ6_bitCount_0f7a4_28 : decode cJ6_bitCount_0f7a4 28 = .ok (.iadd, 1) := by decide +kernel
theorem dJ6_bitCount_0f7a4_29 : decode cJ6_bitCount_0f7a4 29 = .ok (.ldc_w 267, 3) := by decide +kernel
theorem dJ6_bitCount_0f7a4_32 : decode cJ6_bitCount_0f7a4 32 = .ok (.iand, 1) := by decide +kernel
theorem dJ6_bitCount_0f7a4_33 : decode cJ6_bitCount_0f7a4 33 = .ok (.istore_n 0, 1) := by decide +kernel
theorem dJ6_bitCount_0f7a4_34 : decode cJ6_bitCount_0f7a4 34 = .ok (.iload_n 0, 1) := by decide +kernel
theorem dJ6_bitCount_0f7a4_35 : decode cJ6_bitCount_0f7a4 35 = .ok (.iload_n 0, 1) := by decide +kernel
theorem dJ6_bitCount_0f7a4_36 : decode cJ6_bitCount_0f7a4 36 = .ok (.bipush 8, 2) := by decide +kernel
theorem dJ6_bitCount_0f7a4_38 : decode cJ6_bitCount_0f7a4 38 = .ok (.iushr, 1) := by decide +kernel
theorem dJ6_bitCount_0f7a4_39 : decode cJ6_bitCount_0f7a4 39 = .ok (.iadd, 1) := by decide +kernel
theorem dJ6_bitCount_0f7a4_40 : decode cJ6_bitCount_0f7a4 40 = .ok (.istore_n 0, 1) := by decide +kernel
theorem dJ6_bitCount_0f7a4_41 : decode cJ6_bitCount_0f7a4 41 = .ok (.iload_n 0, 1) := by decide +kernel
theorem dJ6_bitCount_0f7a4_42 : decode cJ6_bitCount_0f7a4 42 = .ok (.iload_n 0, 1) := by decide +kernel
theorem dJ6_bitCount_0f7a4_43 : decode cJ6_bitCount_0f7a4 43 = .ok (.bipush 16, 2) := by decide +kernel
theorem dJ6_bitCount_0f7a4_45 : decode cJ6_bitCount_0f7a4 45 = .ok (.iushr, 1) := by decide +kernel
theorem dJ6_bitCount_0f7a4_46 : decode cJ6_bitCount_0f7a4 46 = .ok (.iadd, 1) := by decide +kernel
theorem dJ6_bitCount_0f7a4_47 : decode cJ6_bitCount_0f7a4 47 = .ok (.istore_n 0, 1) := by decide +kernel
theorem dJ6_bitCount_0f7a4_48 : decode cJ6_bitCount_0f7a4 48 = .ok (.iload_n 0, 1) := by decide +kernel
theorem dJ6_bitCount_0f7a4_49 : decode cJ6_bitCount_0f7a4 49 = .ok (.bipush 63, 2) := by decide +kernel
theorem dJ6_bitCount_0f7a4_51 : decode cJ6_bitCount_0f7a4 51 = .ok (.iand, 1) := by decide +kernel
theorem dJ6_bitCount_0f7a4_52 : decode cJ6_bitCount_0f7a4 52 = .ok (.ireturn, 1) := by decide +kernel
theorem dJ9_abs_0f7a4_0 : decode cJ9_abs_0f7a4 0 = .ok (.iload_n 0, 1) := by decide +kernel
theorem dJ9_abs_0f7a4_1 : decode cJ9_abs_0f7a4 1 = .ok (.ifCond .ge 8, 3) := by decide +kernel
theorem dJ9_abs_0f7a4_4 : decode cJ9_abs_0f7a4 4 = .ok (.iload_n 0, 1) := by decide +kernel
theorem dJ9_abs_0f7a4_5 : decode cJ9_abs_0f7a4 5 = .ok (.ineg, 1) := by decide +kernel
theorem dJ9_abs_0f7a4_6 : decode cJ9_abs_0f7a4 6 = .ok (.goto 4, 3) := by decide +kernel
theorem dJ9_abs_0f7a4_9 : decode cJ9_abs_0f7a4 9 = .ok (.iload_n 0, 1) := by decide +kernel
theorem dJ9_abs_0f7a4_10 : decode cJ9_abs_0f7a4 10 = .ok (.ireturn, 1) := by decide +kernel
theorem dJ9_max_7cf53_0 : decode cJ9_max_7cf53 0 = .ok (.iload_n 0, 1) := by decide +kernel
theorem dJ9_max_7cf53_1 : decode cJ9_max_7cf53 1 = .ok (.iload_n 1, 1) := by decide +kernel
theorem dJ9_max_7cf53_2 : decode cJ9_max_7cf53 2 = .ok (.if_icmp .lt 7, 3) := by decide +kernel
theorem dJ9_max_7cf53_5 : decode cJ9_max_7cf53 5 = .ok (.iload_n 0, 1) := by decide +kernel
theorem dJ9_max_7cf53_6 : decode cJ9_max_7cf53 6 = .ok (.goto 4, 3) := by decide +kernel
theorem dJ9_max_7cf53_9 : decode cJ9_max_7cf53 9 = .ok (.iload_n 1, 1) := by decide +kernel
theorem dJ9_max_7cf53_10 : decode cJ9_max_7cf53 10 = .ok (.ireturn, 1) := by decide +kernel
theorem dJ9_min_7cf53_0 : decode cJ9_min_7cf53 0 = .ok (.iload_n 0, 1) := by decide +kernel
theorem dJ9_min_7cf53_1 : decode cJ9_min_7cf53 1 = .ok (.iload_n 1, 1) := by decide +kernel
theorem dJ9_min_7cf53_2 : decode cJ9_min_7cf53 2 = .ok (.if_icmp .gt 7, 3) := by decide +kernel
theorem dJ9_min_7cf53_5 : decode cJ9_min_7cf53 5 = .ok (.iload_n 0, 1) := by decide +kernel
theorem dJ9_min_7cf53_6 : decode cJ9_min_7cf53 6 = .ok (.goto 4, 3) := by decide +kernel
theorem dJ9_min_7cf53_9 : decode cJ9_min_7cf53 9 = .ok (.iload_n 1, 1) := by decide +kernel
theorem dJ9_min_7cf53_10 : decode cJ9_min_7cf53 10 = .ok (.ireturn, 1) := by decide +kernel
theorem dJ7_fill_53178_0 : decode cJ7_fill_53178 0 = .ok (.iconst 0, 1) := by decide +kernel
theorem dJ7_fill_53178_1 : decode cJ7_fill_53178 1 = .ok (.istore_n 2, 1) := by decide +kernel
theorem dJ7_fill_53178_2 : decode cJ7_fill_53178 2 = .ok (.aload_n 0, 1) := by decide +kernel
theorem dJ7_fill_53178_3 : decode cJ7_fill_53178 3 = .ok (.arraylength, 1) := by decide +kernel
theorem dJ7_fill_53178_4 : decode cJ7_fill_53178 4 = .ok (.istore_n 3, 1) := by decide +kernel
theorem dJ7_fill_53178_5 : decode cJ7_fill_53178 5 = .ok (.iload_n 2, 1) := by decide +kernel
theorem dJ7_fill_53178_6 : decode cJ7_fill_53178 6 = .ok (.iload_n 3, 1) := by decide +kernel
theorem dJ7_fill_53178_7 : decode cJ7_fill_53178 7 = .ok (.if_icmp .ge 13, 3) := by decide +kernel
theorem dJ7_fill_53178_10 : decode cJ7_fill_53178 10 = .ok (.aload_n 0, 1) := by decide +kernel
theorem dJ7_fill_53178_11 : decode cJ7_fill_53178 11 = .ok (.iload_n 2, 1) := by decide +kernel
theorem dJ7_fill_53178_12 : decode cJ7_fill_53178 12 = .ok (.iload_n 1, 1) := by decide +kernel
theorem dJ7_fill_53178_13 : decode cJ7_fill_53178 13 = .ok (.iastore, 1) := by decide +kernel
theorem dJ7_fill_53178_14 : decode cJ7_fill_53178 14 = .ok (.iinc 2 1, 3) := by decide +kernel
theorem dJ7_fill_53178_17 : decode cJ7_fill_53178 17 = .ok (.goto (-12), 3) := by decide +kernel
theorem dJ7_fill_53178_20 : decode cJ7_fill_53178 20 = .ok (.return_, 1) := by decide +kernel
