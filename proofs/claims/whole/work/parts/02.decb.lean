theorem dX12_init_0 : decode cX12_init 0 = .ok (.aload_n 0, 1) := by decide +kernel
theorem dX12_init_1 : decode cX12_init 1 = .ok (.invokespecial 1, 3) := by decide +kernel
theorem dX12_init_4 : decode cX12_init 4 = .ok (.aload_n 0, 1) := by decide +kernel
theorem dX12_init_5 : decode cX12_init 5 = .ok (.bipush 8, 2) := by decide +kernel
theorem dX12_init_7 : decode cX12_init 7 = .ok (.newarray .int, 2) := by decide +kernel
theorem dX12_init_9 : decode cX12_init 9 = .ok (.dup, 1) := by decide +kernel
theorem dX12_init_10 : decode cX12_init 10 = .ok (.iconst 0, 1) := by decide +kernel
theorem dX12_init_11 : decode cX12_init 11 = .ok (.iconst (-1), 1) := by decide +kernel
theorem dX12_init_12 : decode cX12_init 12 = .ok (.iastore, 1) := by decide +kernel
theorem dX12_init_13 : decode cX12_init 13 = .ok (.dup, 1) := by decide +kernel
theorem dX12_init_14 : decode cX12_init 14 = .ok (.iconst 1, 1) := by decide +kernel
theorem dX12_init_15 : decode cX12_init 15 = .ok (.iconst (-1), 1) := by decide +kernel
theorem dX12_init_16 : decode cX12_init 16 = .ok (.iastore, 1) := by decide +kernel
theorem dX12_init_17 : decode cX12_init 17 = .ok (.dup, 1) := by decide +kernel
theorem dX12_init_18 : decode cX12_init 18 = .ok (.iconst 2, 1) := by decide +kernel
theorem dX12_init_19 : decode cX12_init 19 = .ok (.iconst (-1), 1) := by decide +kernel
theorem dX12_init_20 : decode cX12_init 20 = .ok (.iastore, 1) := by decide +kernel
theorem dX12_init_21 : decode cX12_init 21 = .ok (.dup, 1) := by decide +kernel
theorem dX12_init_22 : decode cX12_init 22 = .ok (.iconst 3, 1) := by decide +kernel
theorem dX12_init_23 : decode cX12_init 23 = .ok (.iconst (-1), 1) := by decide +kernel
theorem dX12_init_24 : decode cX12_init 24 = .ok (.iastore, 1) := by decide +kernel
theorem dX12_init_25 : decode cX12_init 25 = .ok (.dup, 1) := by decide +kernel
theorem dX12_init_26 : decode cX12_init 26 = .ok (.iconst 4, 1) := by decide +kernel
theorem dX12_init_27 : decode cX12_init 27 = .ok (.iconst (-1), 1) := by decide +kernel
theorem dX12_init_28 : decode cX12_init 28 = .ok (.iastore, 1) := by decide +kernel
theorem dX12_init_29 : decode cX12_init 29 = .ok (.dup, 1) := by decide +kernel
theorem dX12_init_30 : decode cX12_init 30 = .ok (.iconst 5, 1) := by decide +kernel
theorem dX12_init_31 : decode cX12_init 31 = .ok (.iconst (-1), 1) := by decide +kernel
theorem dX12_init_32 : decode cX12_init 32 = .ok (.iastore, 1) := by decide +kernel
theorem dX12_init_33 : decode cX12_init 33 = .ok (.dup, 1) := by decide +kernel
theorem dX12_init_34 : decode cX12_init 34 = .ok (.bipush 6, 2) := by decide +kernel
theorem dX12_init_36 : decode cX12_init 36 = .ok (.iconst (-1), 1) := by decide +kernel
theorem dX12_init_37 : decode cX12_init 37 = .ok (.iastore, 1) := by decide +kernel
theorem dX12_init_38 : decode cX12_init 38 = .ok (.dup, 1) := by decide +kernel
theorem dX12_init_39 : decode cX12_init 39 = .ok (.bipush 7, 2) := by decide +kernel
theorem dX12_init_41 : decode cX12_init 41 = .ok (.iconst (-1), 1) := by decide +kernel
theorem dX12_init_42 : decode cX12_init 42 = .ok (.iastore, 1) := by decide +kernel
theorem dX12_init_43 : decode cX12_init 43 = .ok (.putfield 7, 3) := by decide +kernel
theorem dX12_init_46 : decode cX12_init 46 = .ok (.aload_n 0, 1) := by decide +kernel
theorem dX12_init_47 : decode cX12_init 47 = .ok (.bipush 8, 2) := by decide +kernel
theorem dX12_init_49 : decode cX12_init 49 = .ok (.newarray .int, 2) := by decide +kernel
theorem dX12_init_51 : decode cX12_init 51 = .ok (.putfield 13, 3) := by decide +kernel
theorem dX12_init_54 : decode cX12_init 54 = .ok (.aload_n 0, 1) := by decide +kernel
theorem dX12_init_55 : decode cX12_init 55 = .ok (.sipush 320, 3) := by decide +kernel
theorem dX12_init_58 : decode cX12_init 58 = .ok (.newarray .int, 2) := by decide +kernel
theorem dX12_init_60 : decode cX12_init 60 = .ok (.putfield 16, 3) := by decide +kernel
theorem dX12_init_63 : decode cX12_init 63 = .ok (.aload_n 0, 1) := by decide +kernel
theorem dX12_init_64 : decode cX12_init 64 = .ok (.sipush 147, 3) := by decide +kernel
theorem dX12_init_67 : decode cX12_init 67 = .ok (.newarray .int, 2) := by decide +kernel
theorem dX12_init_69 : decode cX12_init 69 = .ok (.putfield 19, 3) := by decide +kernel
theorem dX12_init_72 : decode cX12_init 72 = .ok (.aload_n 0, 1) := by decide +kernel
theorem dX12_init_73 : decode cX12_init 73 = .ok (.sipush 147, 3) := by decide +kernel
theorem dX12_init_76 : decode cX12_init 76 = .ok (.newarray .int, 2) := by decide +kernel
theorem dX12_init_78 : decode cX12_init 78 = .ok (.putfield 22, 3) := by decide +kernel
theorem dX12_init_81 : decode cX12_init 81 = .ok (.aload_n 0, 1) := by decide +kernel
theorem dX12_init_82 : decode cX12_init 82 = .ok (.sipush 3528, 3) := by decide +kernel
theorem dX12_init_85 : decode cX12_init 85 = .ok (.newarray .int, 2) := by decide +kernel
theorem dX12_init_87 : decode cX12_init 87 = .ok (.putfield 25, 3) := by decide +kernel
theorem dX12_init_90 : decode cX12_init 90 = .ok (.aload_n 0, 1) := by decide +kernel
theorem dX12_init_91 : decode cX12_init 91 = .ok (.sipush 140, 3) := by decide +kernel
theorem dX12_init_94 : decode cX12_init 94 = .ok (.newarray .int, 2) := by decide +kernel
theorem dX12_init_96 : decode cX12_init 96 = .ok (.putfield 28, 3) := by decide +kernel
theorem dX12_init_99 : decode cX12_init 99 = .ok (.aload_n 0, 1) := by decide +kernel
theorem dX12_init_100 : decode cX12_init 100 = .ok (.bipush 12, 2) := by decide +kernel
theorem dX12_init_102 : decode cX12_init 102 = .ok (.newarray .int, 2) := by decide +kernel
theorem dX12_init_104 : decode cX12_init 104 = .ok (.putfield 31, 3) := by decide +kernel
theorem dX12_init_107 : decode cX12_init 107 = .ok (.aload_n 0, 1) := by decide +kernel
theorem dX12_init_108 : decode cX12_init 108 = .ok (.iconst 2, 1) := by decide +kernel
theorem dX12_init_109 : decode cX12_init 109 = .ok (.newarray .boolean, 2) := by decide +kernel
theorem dX12_init_111 : decode cX12_init 111 = .ok (.putfield 34, 3) := by decide +kernel
theorem dX12_init_114 : decode cX12_init 114 = .ok (.aload_n 0, 1) := by decide +kernel
theorem dX12_init_115 : decode cX12_init 115 = .ok (.sipush 294, 3) := by decide +kernel
theorem dX12_init_118 : decode cX12_init 118 = .ok (.newarray .int, 2) := by decide +kernel
theorem dX12_init_120 : decode cX12_init 120 = .ok (.putfield 38, 3) := by decide +kernel
theorem dX12_init_123 : decode cX12_init 123 = .ok (.aload_n 0, 1) := by decide +kernel
theorem dX12_init_124 : decode cX12_init 124 = .ok (.iconst 4, 1) := by decide +kernel
theorem dX12_init_125 : decode cX12_init 125 = .ok (.newarray .int, 2) := by decide +kernel
theorem dX12_init_127 : decode cX12_init 127 = .ok (.putfield 41, 3) := by decide +kernel
theorem dX12_init_130 : decode cX12_init 130 = .ok (.aload_n 0, 1) := by decide +kernel
theorem dX12_init_131 : decode cX12_init 131 = .ok (.iconst 4, 1) := by decide +kernel
theorem dX12_init_132 : decode cX12_init 132 = .ok (.newarray .int, 2) := by decide +kernel
theorem dX12_init_134 : decode cX12_init 134 = .ok (.putfield 44, 3) := by decide +kernel
theorem dX12_init_137 : decode cX12_init 137 = .ok (.aload_n 0, 1) := by decide +kernel
theorem dX12_init_138 : decode cX12_init 138 = .ok (.iconst 4, 1) := by decide +kernel
theorem dX12_init_139 : decode cX12_init 139 = .ok (.newarray .int, 2) := by decide +kernel
theorem dX12_init_141 : decode cX12_init 141 = .ok (.putfield 47, 3) := by decide +kernel
theorem dX12_init_144 : decode cX12_init 144 = .ok (.aload_n 0, 1) := by decide +kernel
theorem dX12_init_145 : decode cX12_init 145 = .ok (.bipush 16, 2) := by decide +kernel
theorem dX12_init_147 : decode cX12_init 147 = .ok (.newarray .int, 2) := by decide +kernel
theorem dX12_init_149 : decode cX12_init 149 = .ok (.putfield 50, 3) := by decide +kernel
theorem dX12_init_152 : decode cX12_init 152 = .ok (.return_, 1) := by decide +kernel
theorem dX12_in_0 : decode cX12_in 0 = .ok (.lload_n 0, 1) := by decide +kernel
theorem dX12_in_1 : decode cX12_in 1 = .ok (.lload_n 2, 1) := by decide +kernel
theorem dX12_in_2 : decode cX12_in 2 = .ok (.lcmp, 1) := by decide +kernel
theorem dX12_in_3 : decode cX12_in 3 = .ok (.ifCond .lt 14, 3) := by decide +kernel
theorem dX12_in_6 : decode cX12_in 6 = .ok (.lload_n 0, 1) := by decide +kernel
theorem dX12_in_7 : decode cX12_in 7 = .ok (.lload 4, 2) := by decide +kernel
theorem dX12_in_9 : decode cX12_in 9 = .ok (.lcmp, 1) := by decide +kernel
theorem dX12_in_10 : decode cX12_in 10 = .ok (.ifCond .gt 7, 3) := by decide +kernel
theorem dX12_in_13 : decode cX12_in 13 = .ok (.iconst 1, 1) := by decide +kernel
theorem dX12_in_14 : decode cX12_in 14 = .ok (.goto 4, 3) := by decide +kernel
theorem dX12_in_17 : decode cX12_in 17 = .ok (.iconst 0, 1) := by decide +kernel
theorem dX12_in_18 : decode cX12_in 18 = .ok (.ireturn, 1) := by decide +kernel
theorem dX12_finding_0 : decode cX12_finding 0 = .ok (.aload_n 0, 1) := by decide +kernel
theorem dX12_finding_1 : decode cX12_finding 1 = .ok (.iload_n 1, 1) := by decide +kernel
theorem dX12_finding_2 : decode cX12_finding 2 = .ok (.putfield 57, 3) := by decide +kernel
theorem dX12_finding_5 : decode cX12_finding 5 = .ok (.ldc 60, 2) := by decide +kernel
theorem dX12_finding_7 : decode cX12_finding 7 = .ok (.iload_n 1, 1) := by decide +kernel
theorem dX12_finding_8 : decode cX12_finding 8 = .ok (.isub, 1) := by decide +kernel
theorem dX12_finding_9 : decode cX12_finding 9 = .ok (.ireturn, 1) := by decide +kernel
theorem dX12_isRow_0 : decode cX12_isRow 0 = .ok (.iload_n 0, 1) := by decide +kernel
theorem dX12_isRow_1 : decode cX12_isRow 1 = .ok (.i2l, 1) := by decide +kernel
theorem dX12_isRow_2 : decode cX12_isRow 2 = .ok (.lconst 0, 1) := by decide +kernel
theorem dX12_isRow_3 : decode cX12_isRow 3 = .ok (.ldc2_w 61, 3) := by decide +kernel
theorem dX12_isRow_6 : decode cX12_isRow 6 = .ok (.invokestatic 63, 3) := by decide +kernel
theorem dX12_isRow_9 : decode cX12_isRow 9 = .ok (.ireturn, 1) := by decide +kernel
theorem dX12_row_0 : decode cX12_row 0 = .ok (.aload_n 0, 1) := by decide +kernel
theorem dX12_row_1 : decode cX12_row 1 = .ok (.iconst 0, 1) := by decide +kernel
theorem dX12_row_2 : decode cX12_row 2 = .ok (.putfield 53, 3) := by decide +kernel
theorem dX12_row_5 : decode cX12_row 5 = .ok (.iload_n 1, 1) := by decide +kernel
theorem dX12_row_6 : decode cX12_row 6 = .ok (.invokestatic 67, 3) := by decide +kernel
theorem dX12_row_9 : decode cX12_row 9 = .ok (.ifCond .eq 21, 3) := by decide +kernel
theorem dX12_row_12 : decode cX12_row 12 = .ok (.iload_n 2, 1) := by decide +kernel
theorem dX12_row_13 : decode cX12_row 13 = .ok (.i2l, 1) := by decide +kernel
theorem dX12_row_14 : decode cX12_row 14 = .ok (.lconst 0, 1) := by decide +kernel
theorem dX12_row_15 : decode cX12_row 15 = .ok (.ldc2_w 71, 3) := by decide +kernel
theorem dX12_row_18 : decode cX12_row 18 = .ok (.invokestatic 63, 3) := by decide +kernel
theorem dX12_row_21 : decode cX12_row 21 = .ok (.ifCond .eq 9, 3) := by decide +kernel
theorem dX12_row_24 : decode cX12_row 24 = .ok (.iload_n 3, 1) := by decide +kernel
theorem dX12_row_25 : decode cX12_row 25 = .ok (.bipush 40, 2) := by decide +kernel
theorem dX12_row_27 : decode cX12_row 27 = .ok (.if_icmp .le 6, 3) := by decide +kernel
theorem dX12_row_30 : decode cX12_row 30 = .ok (.ldc 73, 2) := by decide +kernel
theorem dX12_row_32 : decode cX12_row 32 = .ok (.ireturn, 1) := by decide +kernel
theorem dX12_row_33 : decode cX12_row 33 = .ok (.aload_n 0, 1) := by decide +kernel
theorem dX12_row_34 : decode cX12_row 34 = .ok (.iconst 0, 1) := by decide +kernel
theorem dX12_row_35 : decode cX12_row 35 = .ok (.putfield 57, 3) := by decide +kernel
theorem dX12_row_38 : decode cX12_row 38 = .ok (.iload_n 3, 1) := by decide +kernel
theorem dX12_row_39 : decode cX12_row 39 = .ok (.ifCond .ge 9, 3) := by decide +kernel
theorem dX12_row_42 : decode cX12_row 42 = .ok (.aload_n 0, 1) := by decide +kernel
theorem dX12_row_43 : decode cX12_row 43 = .ok (.iconst 4, 1) := by decide +kernel
theorem dX12_row_44 : decode cX12_row 44 = .ok (.invokevirtual 74, 3) := by decide +kernel
theorem dX12_row_47 : decode cX12_row 47 = .ok (.ireturn, 1) := by decide +kernel
theorem dX12_row_48 : decode cX12_row 48 = .ok (.aload_n 0, 1) := by decide +kernel
theorem dX12_row_49 : decode cX12_row 49 = .ok (.getfield 7, 3) := by decide +kernel
theorem dX12_row_52 : decode cX12_row 52 = .ok (.iload_n 1, 1) := by decide +kernel
theorem dX12_row_53 : decode cX12_row 53 = .ok (.iload_n 2, 1) := by decide +kernel
theorem dX12_row_54 : decode cX12_row 54 = .ok (.iastore, 1) := by decide +kernel
theorem dX12_row_55 : decode cX12_row 55 = .ok (.aload_n 0, 1) := by decide +kernel
theorem dX12_row_56 : decode cX12_row 56 = .ok (.getfield 13, 3) := by decide +kernel
theorem dX12_row_59 : decode cX12_row 59 = .ok (.iload_n 1, 1) := by decide +kernel
theorem dX12_row_60 : decode cX12_row 60 = .ok (.iload_n 3, 1) := by decide +kernel
theorem dX12_row_61 : decode cX12_row 61 = .ok (.iastore, 1) := by decide +kernel
theorem dX12_row_62 : decode cX12_row 62 = .ok (.iconst 0, 1) := by decide +kernel
theorem dX12_row_63 : decode cX12_row 63 = .ok (.istore 4, 2) := by decide +kernel
theorem dX12_row_65 : decode cX12_row 65 = .ok (.iload 4, 2) := by decide +kernel
theorem dX12_row_67 : decode cX12_row 67 = .ok (.bipush 40, 2) := by decide +kernel
theorem dX12_row_69 : decode cX12_row 69 = .ok (.if_icmp .ge 22, 3) := by decide +kernel
theorem dX12_row_72 : decode cX12_row 72 = .ok (.aload_n 0, 1) := by decide +kernel
theorem dX12_row_73 : decode cX12_row 73 = .ok (.getfield 16, 3) := by decide +kernel
theorem dX12_row_76 : decode cX12_row 76 = .ok (.bipush 40, 2) := by decide +kernel
theorem dX12_row_78 : decode cX12_row 78 = .ok (.iload_n 1, 1) := by decide +kernel
theorem dX12_row_79 : decode cX12_row 79 = .ok (.imul, 1) := by decide +kernel
theorem dX12_row_80 : decode cX12_row 80 = .ok (.iload 4, 2) := by decide +kernel
theorem dX12_row_82 : decode cX12_row 82 = .ok (.iadd, 1) := by decide +kernel
theorem dX12_row_83 : decode cX12_row 83 = .ok (.iconst 0, 1) := by decide +kernel
theorem dX12_row_84 : decode cX12_row 84 = .ok (.iastore, 1) := by decide +kernel
theorem dX12_row_85 : decode cX12_row 85 = .ok (.iinc 4 1, 3) := by decide +kernel
theorem dX12_row_88 : decode cX12_row 88 = .ok (.goto (-23), 3) := by decide +kernel
theorem dX12_row_91 : decode cX12_row 91 = .ok (.iload_n 3, 1) := by decide +kernel
theorem dX12_row_92 : decode cX12_row 92 = .ok (.ireturn, 1) := by decide +kernel
theorem dX12_set_0 : decode cX12_set 0 = .ok (.aload_n 0, 1) := by decide +kernel
theorem dX12_set_1 : decode cX12_set 1 = .ok (.iconst 0, 1) := by decide +kernel
theorem dX12_set_2 : decode cX12_set 2 = .ok (.putfield 53, 3) := by decide +kernel
theorem dX12_set_5 : decode cX12_set 5 = .ok (.iload_n 1, 1) := by decide +kernel
theorem dX12_set_6 : decode cX12_set 6 = .ok (.invokestatic 67, 3) := by decide +kernel
theorem dX12_set_9 : decode cX12_set 9 = .ok (.ifCond .ne 6, 3) := by decide +kernel
theorem dX12_set_12 : decode cX12_set 12 = .ok (.ldc 73, 2) := by decide +kernel
theorem dX12_set_14 : decode cX12_set 14 = .ok (.ireturn, 1) := by decide +kernel
theorem dX12_set_15 : decode cX12_set 15 = .ok (.aload_n 0, 1) := by decide +kernel
theorem dX12_set_16 : decode cX12_set 16 = .ok (.iconst 0, 1) := by decide +kernel
theorem dX12_set_17 : decode cX12_set 17 = .ok (.putfield 57, 3) := by decide +kernel
theorem dX12_set_20 : decode cX12_set 20 = .ok (.aload_n 0, 1) := by decide +kernel
theorem dX12_set_21 : decode cX12_set 21 = .ok (.getfield 7, 3) := by decide +kernel
theorem dX12_set_24 : decode cX12_set 24 = .ok (.iload_n 1, 1) := by decide +kernel
theorem dX12_set_25 : decode cX12_set 25 = .ok (.iaload, 1) := by decide +kernel
theorem dX12_set_26 : decode cX12_set 26 = .ok (.ifCond .ge 9, 3) := by decide +kernel
theorem dX12_set_29 : decode cX12_set 29 = .ok (.aload_n 0, 1) := by decide +kernel
theorem dX12_set_30 : decode cX12_set 30 = .ok (.iconst 1, 1) := by decide +kernel
theorem dX12_set_31 : decode cX12_set 31 = .ok (.invokevirtual 74, 3) := by decide +kernel
theorem dX12_set_34 : decode cX12_set 34 = .ok (.ireturn, 1) := by decide +kernel
theorem dX12_set_35 : decode cX12_set 35 = .ok (.iload_n 2, 1) := by decide +kernel
theorem dX12_set_36 : decode cX12_set 36 = .ok (.i2l, 1) := by decide +kernel
theorem dX12_set_37 : decode cX12_set 37 = .ok (.lconst 0, 1) := by decide +kernel
theorem dX12_set_38 : decode cX12_set 38 = .ok (.aload_n 0, 1) := by decide +kernel
theorem dX12_set_39 : decode cX12_set 39 = .ok (.getfield 13, 3) := by decide +kernel
theorem dX12_set_42 : decode cX12_set 42 = .ok (.iload_n 1, 1) := by decide +kernel
theorem dX12_set_43 : decode cX12_set 43 = .ok (.iaload, 1) := by decide +kernel
theorem dX12_set_44 : decode cX12_set 44 = .ok (.iconst 1, 1) := by decide +kernel
theorem dX12_set_45 : decode cX12_set 45 = .ok (.isub, 1) := by decide +kernel
theorem dX12_set_46 : decode cX12_set 46 = .ok (.i2l, 1) := by decide +kernel
theorem dX12_set_47 : decode cX12_set 47 = .ok (.invokestatic 63, 3) := by decide +kernel
theorem dX12_set_50 : decode cX12_set 50 = .ok (.ifCond .ne 9, 3) := by decide +kernel
theorem dX12_set_53 : decode cX12_set 53 = .ok (.aload_n 0, 1) := by decide +kernel
theorem dX12_set_54 : decode cX12_set 54 = .ok (.iconst 2, 1) := by decide +kernel
theorem dX12_set_55 : decode cX12_set 55 = .ok (.invokevirtual 74, 3) := by decide +kernel
theorem dX12_set_58 : decode cX12_set 58 = .ok (.ireturn, 1) := by decide +kernel
theorem dX12_set_59 : decode cX12_set 59 = .ok (.aload_n 0, 1) := by decide +kernel
theorem dX12_set_60 : decode cX12_set 60 = .ok (.getfield 16, 3) := by decide +kernel
theorem dX12_set_63 : decode cX12_set 63 = .ok (.bipush 40, 2) := by decide +kernel
theorem dX12_set_65 : decode cX12_set 65 = .ok (.iload_n 1, 1) := by decide +kernel
theorem dX12_set_66 : decode cX12_set 66 = .ok (.imul, 1) := by decide +kernel
theorem dX12_set_67 : decode cX12_set 67 = .ok (.iload_n 2, 1) := by decide +kernel
theorem dX12_set_68 : decode cX12_set 68 = .ok (.iadd, 1) := by decide +kernel
theorem dX12_set_69 : decode cX12_set 69 = .ok (.aload_n 0, 1) := by decide +kernel
theorem dX12_set_70 : decode cX12_set 70 = .ok (.getfield 7, 3) := by decide +kernel
theorem dX12_set_73 : decode cX12_set 73 = .ok (.iload_n 1, 1) := by decide +kernel
theorem dX12_set_74 : decode cX12_set 74 = .ok (.iaload, 1) := by decide +kernel
theorem dX12_set_75 : decode cX12_set 75 = .ok (.ifCond .ne 8, 3) := by decide +kernel
theorem dX12_set_78 : decode cX12_set 78 = .ok (.iload_n 3, 1) := by decide +kernel
theorem dX12_set_79 : decode cX12_set 79 = .ok (.i2b, 1) := by decide +kernel
theorem dX12_set_80 : decode cX12_set 80 = .ok (.goto 19, 3) := by decide +kernel
theorem dX12_set_83 : decode cX12_set 83 = .ok (.aload_n 0, 1) := by decide +kernel
theorem dX12_set_84 : decode cX12_set 84 = .ok (.getfield 7, 3) := by decide +kernel
theorem dX12_set_87 : decode cX12_set 87 = .ok (.iload_n 1, 1) := by decide +kernel
theorem dX12_set_88 : decode cX12_set 88 = .ok (.iaload, 1) := by decide +kernel
theorem dX12_set_89 : decode cX12_set 89 = .ok (.iconst 1, 1) := by decide +kernel
theorem dX12_set_90 : decode cX12_set 90 = .ok (.if_icmp .ne 8, 3) := by decide +kernel
theorem dX12_set_93 : decode cX12_set 93 = .ok (.iload_n 3, 1) := by decide +kernel
theorem dX12_set_94 : decode cX12_set 94 = .ok (.i2s, 1) := by decide +kernel
theorem dX12_set_95 : decode cX12_set 95 = .ok (.goto 4, 3) := by decide +kernel
theorem dX12_set_98 : decode cX12_set 98 = .ok (.iload_n 3, 1) := by decide +kernel
theorem dX12_set_99 : decode cX12_set 99 = .ok (.iastore, 1) := by decide +kernel
theorem dX12_set_100 : decode cX12_set 100 = .ok (.aload_n 0, 1) := by decide +kernel
theorem dX12_set_101 : decode cX12_set 101 = .ok (.getfield 16, 3) := by decide +kernel
theorem dX12_set_104 : decode cX12_set 104 = .ok (.bipush 40, 2) := by decide +kernel
theorem dX12_set_106 : decode cX12_set 106 = .ok (.iload_n 1, 1) := by decide +kernel
theorem dX12_set_107 : decode cX12_set 107 = .ok (.imul, 1) := by decide +kernel
theorem dX12_set_108 : decode cX12_set 108 = .ok (.iload_n 2, 1) := by decide +kernel
theorem dX12_set_109 : decode cX12_set 109 = .ok (.iadd, 1) := by decide +kernel
theorem dX12_set_110 : decode cX12_set 110 = .ok (.iaload, 1) := by decide +kernel
theorem dX12_set_111 : decode cX12_set 111 = .ok (.ireturn, 1) := by decide +kernel
theorem dX12_copy_0 : decode cX12_copy 0 = .ok (.aload_n 0, 1) := by decide +kernel
theorem dX12_copy_1 : decode cX12_copy 1 = .ok (.iconst 0, 1) := by decide +kernel
theorem dX12_copy_2 : decode cX12_copy 2 = .ok (.putfield 53, 3) := by decide +kernel
theorem dX12_copy_5 : decode cX12_copy 5 = .ok (.iload_n 1, 1) := by decide +kernel
theorem dX12_copy_6 : decode cX12_copy 6 = .ok (.invokestatic 67, 3) := by decide +kernel
theorem dX12_copy_9 : decode cX12_copy 9 = .ok (.ifCond .eq 10, 3) := by decide +kernel
theorem dX12_copy_12 : decode cX12_copy 12 = .ok (.iload_n 3, 1) := by decide +kernel
theorem dX12_copy_13 : decode cX12_copy 13 = .ok (.invokestatic 67, 3) := by decide +kernel
theorem dX12_copy_16 : decode cX12_copy 16 = .ok (.ifCond .ne 6, 3) := by decide +kernel
theorem dX12_copy_19 : decode cX12_copy 19 = .ok (.ldc 73, 2) := by decide +kernel
theorem dX12_copy_21 : decode cX12_copy 21 = .ok (.ireturn, 1) := by decide +kernel
theorem dX12_copy_22 : decode cX12_copy 22 = .ok (.aload_n 0, 1) := by decide +kernel
theorem dX12_copy_23 : decode cX12_copy 23 = .ok (.iconst 0, 1) := by decide +kernel
theorem dX12_copy_24 : decode cX12_copy 24 = .ok (.putfield 57, 3) := by decide +kernel
theorem dX12_copy_27 : decode cX12_copy 27 = .ok (.aload_n 0, 1) := by decide +kernel
theorem dX12_copy_28 : decode cX12_copy 28 = .ok (.getfield 7, 3) := by decide +kernel
theorem dX12_copy_31 : decode cX12_copy 31 = .ok (.iload_n 1, 1) := by decide +kernel
theorem dX12_copy_32 : decode cX12_copy 32 = .ok (.iaload, 1) := by decide +kernel
theorem dX12_copy_33 : decode cX12_copy 33 = .ok (.ifCond .lt 12, 3) := by decide +kernel
theorem dX12_copy_36 : decode cX12_copy 36 = .ok (.aload_n 0, 1) := by decide +kernel
theorem dX12_copy_37 : decode cX12_copy 37 = .ok (.getfield 7, 3) := by decide +kernel
theorem dX12_copy_40 : decode cX12_copy 40 = .ok (.iload_n 3, 1) := by decide +kernel
theorem dX12_copy_41 : decode cX12_copy 41 = .ok (.iaload, 1) := by decide +kernel
theorem dX12_copy_42 : decode cX12_copy 42 = .ok (.ifCond .ge 9, 3) := by decide +kernel
theorem dX12_copy_45 : decode cX12_copy 45 = .ok (.aload_n 0, 1) := by decide +kernel
theorem dX12_copy_46 : decode cX12_copy 46 = .ok (.iconst 1, 1) := by decide +kernel
theorem dX12_copy_47 : decode cX12_copy 47 = .ok (.invokevirtual 74, 3) := by decide +kernel
theorem dX12_copy_50 : decode cX12_copy 50 = .ok (.ireturn, 1) := by decide +kernel
theorem dX12_copy_51 : decode cX12_copy 51 = .ok (.aload_n 0, 1) := by decide +kernel
theorem dX12_copy_52 : decode cX12_copy 52 = .ok (.getfield 7, 3) := by decide +kernel
theorem dX12_copy_55 : decode cX12_copy 55 = .ok (.iload_n 1, 1) := by decide +kernel
theorem dX12_copy_56 : decode cX12_copy 56 = .ok (.iaload, 1) := by decide +kernel
theorem dX12_copy_57 : decode cX12_copy 57 = .ok (.aload_n 0, 1) := by decide +kernel
theorem dX12_copy_58 : decode cX12_copy 58 = .ok (.getfield 7, 3) := by decide +kernel
theorem dX12_copy_61 : decode cX12_copy 61 = .ok (.iload_n 3, 1) := by decide +kernel
theorem dX12_copy_62 : decode cX12_copy 62 = .ok (.iaload, 1) := by decide +kernel
theorem dX12_copy_63 : decode cX12_copy 63 = .ok (.if_icmp .eq 9, 3) := by decide +kernel
theorem dX12_copy_66 : decode cX12_copy 66 = .ok (.aload_n 0, 1) := by decide +kernel
theorem dX12_copy_67 : decode cX12_copy 67 = .ok (.iconst 5, 1) := by decide +kernel
theorem dX12_copy_68 : decode cX12_copy 68 = .ok (.invokevirtual 74, 3) := by decide +kernel
theorem dX12_copy_71 : decode cX12_copy 71 = .ok (.ireturn, 1) := by decide +kernel
theorem dX12_copy_72 : decode cX12_copy 72 = .ok (.iload_n 2, 1) := by decide +kernel
theorem dX12_copy_73 : decode cX12_copy 73 = .ok (.ifCond .lt 48, 3) := by decide +kernel
theorem dX12_copy_76 : decode cX12_copy 76 = .ok (.iload 4, 2) := by decide +kernel
theorem dX12_copy_78 : decode cX12_copy 78 = .ok (.ifCond .lt 43, 3) := by decide +kernel
theorem dX12_copy_81 : decode cX12_copy 81 = .ok (.iload 5, 2) := by decide +kernel
theorem dX12_copy_83 : decode cX12_copy 83 = .ok (.ifCond .lt 38, 3) := by decide +kernel
theorem dX12_copy_86 : decode cX12_copy 86 = .ok (.iload_n 2, 1) := by decide +kernel
theorem dX12_copy_87 : decode cX12_copy 87 = .ok (.i2l, 1) := by decide +kernel
theorem dX12_copy_88 : decode cX12_copy 88 = .ok (.iload 5, 2) := by decide +kernel
theorem dX12_copy_90 : decode cX12_copy 90 = .ok (.i2l, 1) := by decide +kernel
theorem dX12_copy_91 : decode cX12_copy 91 = .ok (.ladd, 1) := by decide +kernel
theorem dX12_copy_92 : decode cX12_copy 92 = .ok (.aload_n 0, 1) := by decide +kernel
theorem dX12_copy_93 : decode cX12_copy 93 = .ok (.getfield 13, 3) := by decide +kernel
theorem dX12_copy_96 : decode cX12_copy 96 = .ok (.iload_n 1, 1) := by decide +kernel
theorem dX12_copy_97 : decode cX12_copy 97 = .ok (.iaload, 1) := by decide +kernel
theorem dX12_copy_98 : decode cX12_copy 98 = .ok (.i2l, 1) := by decide +kernel
theorem dX12_copy_99 : decode cX12_copy 99 = .ok (.lcmp, 1) := by decide +kernel
theorem dX12_copy_100 : decode cX12_copy 100 = .ok (.ifCond .gt 21, 3) := by decide +kernel
theorem dX12_copy_103 : decode cX12_copy 103 = .ok (.iload 4, 2) := by decide +kernel
theorem dX12_copy_105 : decode cX12_copy 105 = .ok (.i2l, 1) := by decide +kernel
theorem dX12_copy_106 : decode cX12_copy 106 = .ok (.iload 5, 2) := by decide +kernel
theorem dX12_copy_108 : decode cX12_copy 108 = .ok (.i2l, 1) := by decide +kernel
theorem dX12_copy_109 : decode cX12_copy 109 = .ok (.ladd, 1) := by decide +kernel
theorem dX12_copy_110 : decode cX12_copy 110 = .ok (.aload_n 0, 1) := by decide +kernel
theorem dX12_copy_111 : decode cX12_copy 111 = .ok (.getfield 13, 3) := by decide +kernel
theorem dX12_copy_114 : decode cX12_copy 114 = .ok (.iload_n 3, 1) := by decide +kernel
theorem dX12_copy_115 : decode cX12_copy 115 = .ok (.iaload, 1) := by decide +kernel
theorem dX12_copy_116 : decode cX12_copy 116 = .ok (.i2l, 1) := by decide +kernel
theorem dX12_copy_117 : decode cX12_copy 117 = .ok (.lcmp, 1) := by decide +kernel
theorem dX12_copy_118 : decode cX12_copy 118 = .ok (.ifCond .le 9, 3) := by decide +kernel
theorem dX12_copy_121 : decode cX12_copy 121 = .ok (.aload_n 0, 1) := by decide +kernel
theorem dX12_copy_122 : decode cX12_copy 122 = .ok (.iconst 2, 1) := by decide +kernel
theorem dX12_copy_123 : decode cX12_copy 123 = .ok (.invokevirtual 74, 3) := by decide +kernel
theorem dX12_copy_126 : decode cX12_copy 126 = .ok (.ireturn, 1) := by decide +kernel
theorem dX12_copy_127 : decode cX12_copy 127 = .ok (.iload_n 2, 1) := by decide +kernel
theorem dX12_copy_128 : decode cX12_copy 128 = .ok (.iload 4, 2) := by decide +kernel
theorem dX12_copy_130 : decode cX12_copy 130 = .ok (.if_icmp .lt 7, 3) := by decide +kernel
theorem dX12_copy_133 : decode cX12_copy 133 = .ok (.iconst 1, 1) := by decide +kernel
theorem dX12_copy_134 : decode cX12_copy 134 = .ok (.goto 4, 3) := by decide +kernel
theorem dX12_copy_137 : decode cX12_copy 137 = .ok (.iconst 0, 1) := by decide +kernel
theorem dX12_copy_138 : decode cX12_copy 138 = .ok (.istore 6, 2) := by decide +kernel
theorem dX12_copy_140 : decode cX12_copy 140 = .ok (.iconst 0, 1) := by decide +kernel
theorem dX12_copy_141 : decode cX12_copy 141 = .ok (.istore 7, 2) := by decide +kernel
theorem dX12_copy_143 : decode cX12_copy 143 = .ok (.iload 7, 2) := by decide +kernel
theorem dX12_copy_145 : decode cX12_copy 145 = .ok (.iload 5, 2) := by decide +kernel
theorem dX12_copy_147 : decode cX12_copy 147 = .ok (.if_icmp .ge 57, 3) := by decide +kernel
theorem dX12_copy_150 : decode cX12_copy 150 = .ok (.iload 6, 2) := by decide +kernel
theorem dX12_copy_152 : decode cX12_copy 152 = .ok (.ifCond .eq 8, 3) := by decide +kernel
theorem dX12_copy_155 : decode cX12_copy 155 = .ok (.iload 7, 2) := by decide +kernel
theorem dX12_copy_157 : decode cX12_copy 157 = .ok (.goto 10, 3) := by decide +kernel
theorem dX12_copy_160 : decode cX12_copy 160 = .ok (.iload 5, 2) := by decide +kernel
theorem dX12_copy_162 : decode cX12_copy 162 = .ok (.iconst 1, 1) := by decide +kernel
theorem dX12_copy_163 : decode cX12_copy 163 = .ok (.isub, 1) := by decide +kernel
theorem dX12_copy_164 : decode cX12_copy 164 = .ok (.iload 7, 2) := by decide +kernel
theorem dX12_copy_166 : decode cX12_copy 166 = .ok (.isub, 1) := by decide +kernel
theorem dX12_copy_167 : decode cX12_copy 167 = .ok (.istore 8, 2) := by decide +kernel
theorem dX12_copy_169 : decode cX12_copy 169 = .ok (.aload_n 0, 1) := by decide +kernel
theorem dX12_copy_170 : decode cX12_copy 170 = .ok (.getfield 16, 3) := by decide +kernel
theorem dX12_copy_173 : decode cX12_copy 173 = .ok (.bipush 40, 2) := by decide +kernel
theorem dX12_copy_175 : decode cX12_copy 175 = .ok (.iload_n 3, 1) := by decide +kernel
theorem dX12_copy_176 : decode cX12_copy 176 = .ok (.imul, 1) := by decide +kernel
theorem dX12_copy_177 : decode cX12_copy 177 = .ok (.iload 4, 2) := by decide +kernel
theorem dX12_copy_179 : decode cX12_copy 179 = .ok (.iadd, 1) := by decide +kernel
theorem dX12_copy_180 : decode cX12_copy 180 = .ok (.iload 8, 2) := by decide +kernel
theorem dX12_copy_182 : decode cX12_copy 182 = .ok (.iadd, 1) := by decide +kernel
theorem dX12_copy_183 : decode cX12_copy 183 = .ok (.aload_n 0, 1) := by decide +kernel
theorem dX12_copy_184 : decode cX12_copy 184 = .ok (.getfield 16, 3) := by decide +kernel
theorem dX12_copy_187 : decode cX12_copy 187 = .ok (.bipush 40, 2) := by decide +kernel
theorem dX12_copy_189 : decode cX12_copy 189 = .ok (.iload_n 1, 1) := by decide +kernel
theorem dX12_copy_190 : decode cX12_copy 190 = .ok (.imul, 1) := by decide +kernel
theorem dX12_copy_191 : decode cX12_copy 191 = .ok (.iload_n 2, 1) := by decide +kernel
theorem dX12_copy_192 : decode cX12_copy 192 = .ok (.iadd, 1) := by decide +kernel
theorem dX12_copy_193 : decode cX12_copy 193 = .ok (.iload 8, 2) := by decide +kernel
theorem dX12_copy_195 : decode cX12_copy 195 = .ok (.iadd, 1) := by decide +kernel
theorem dX12_copy_196 : decode cX12_copy 196 = .ok (.iaload, 1) := by decide +kernel
theorem dX12_copy_197 : decode cX12_copy 197 = .ok (.iastore, 1) := by decide +kernel
theorem dX12_copy_198 : decode cX12_copy 198 = .ok (.iinc 7 1, 3) := by decide +kernel
theorem dX12_copy_201 : decode cX12_copy 201 = .ok (.goto (-58), 3) := by decide +kernel
theorem dX12_copy_204 : decode cX12_copy 204 = .ok (.iload 5, 2) := by decide +kernel
theorem dX12_copy_206 : decode cX12_copy 206 = .ok (.ireturn, 1) := by decide +kernel
theorem dX12_drop_0 : decode cX12_drop 0 = .ok (.aload_n 0, 1) := by decide +kernel
theorem dX12_drop_1 : decode cX12_drop 1 = .ok (.iconst 0, 1) := by decide +kernel
theorem dX12_drop_2 : decode cX12_drop 2 = .ok (.putfield 53, 3) := by decide +kernel
theorem dX12_drop_5 : decode cX12_drop 5 = .ok (.iload_n 1, 1) := by decide +kernel
theorem dX12_drop_6 : decode cX12_drop 6 = .ok (.invokestatic 67, 3) := by decide +kernel
theorem dX12_drop_9 : decode cX12_drop 9 = .ok (.ifCond .ne 6, 3) := by decide +kernel
theorem dX12_drop_12 : decode cX12_drop 12 = .ok (.ldc 73, 2) := by decide +kernel
theorem dX12_drop_14 : decode cX12_drop 14 = .ok (.ireturn, 1) := by decide +kernel
theorem dX12_drop_15 : decode cX12_drop 15 = .ok (.aload_n 0, 1) := by decide +kernel
theorem dX12_drop_16 : decode cX12_drop 16 = .ok (.iconst 0, 1) := by decide +kernel
theorem dX12_drop_17 : decode cX12_drop 17 = .ok (.putfield 57, 3) := by decide +kernel
theorem dX12_drop_20 : decode cX12_drop 20 = .ok (.aload_n 0, 1) := by decide +kernel
theorem dX12_drop_21 : decode cX12_drop 21 = .ok (.getfield 7, 3) := by decide +kernel
theorem dX12_drop_24 : decode cX12_drop 24 = .ok (.iload_n 1, 1) := by decide +kernel
theorem dX12_drop_25 : decode cX12_drop 25 = .ok (.iaload, 1) := by decide +kernel
theorem dX12_drop_26 : decode cX12_drop 26 = .ok (.ifCond .ge 9, 3) := by decide +kernel
theorem dX12_drop_29 : decode cX12_drop 29 = .ok (.aload_n 0, 1) := by decide +kernel
theorem dX12_drop_30 : decode cX12_drop 30 = .ok (.iconst 1, 1) := by decide +kernel
theorem dX12_drop_31 : decode cX12_drop 31 = .ok (.invokevirtual 74, 3) := by decide +kernel
theorem dX12_drop_34 : decode cX12_drop 34 = .ok (.ireturn, 1) := by decide +kernel
theorem dX12_drop_35 : decode cX12_drop 35 = .ok (.aload_n 0, 1) := by decide +kernel
theorem dX12_drop_36 : decode cX12_drop 36 = .ok (.getfield 7, 3) := by decide +kernel
theorem dX12_drop_39 : decode cX12_drop 39 = .ok (.iload_n 1, 1) := by decide +kernel
theorem dX12_drop_40 : decode cX12_drop 40 = .ok (.iconst (-1), 1) := by decide +kernel
theorem dX12_drop_41 : decode cX12_drop 41 = .ok (.iastore, 1) := by decide +kernel
theorem dX12_drop_42 : decode cX12_drop 42 = .ok (.aload_n 0, 1) := by decide +kernel
theorem dX12_drop_43 : decode cX12_drop 43 = .ok (.getfield 13, 3) := by decide +kernel
theorem dX12_drop_46 : decode cX12_drop 46 = .ok (.iload_n 1, 1) := by decide +kernel
theorem dX12_drop_47 : decode cX12_drop 47 = .ok (.iaload, 1) := by decide +kernel
theorem dX12_drop_48 : decode cX12_drop 48 = .ok (.ireturn, 1) := by decide +kernel
theorem dX12_feed_0 : decode cX12_feed 0 = .ok (.aload_n 0, 1) := by decide +kernel
theorem dX12_feed_1 : decode cX12_feed 1 = .ok (.iconst 0, 1) := by decide +kernel
theorem dX12_feed_2 : decode cX12_feed 2 = .ok (.putfield 53, 3) := by decide +kernel
theorem dX12_feed_5 : decode cX12_feed 5 = .ok (.iload_n 1, 1) := by decide +kernel
theorem dX12_feed_6 : decode cX12_feed 6 = .ok (.i2l, 1) := by decide +kernel
theorem dX12_feed_7 : decode cX12_feed 7 = .ok (.lconst 0, 1) := by decide +kernel
theorem dX12_feed_8 : decode cX12_feed 8 = .ok (.ldc2_w 78, 3) := by decide +kernel
theorem dX12_feed_11 : decode cX12_feed 11 = .ok (.invokestatic 63, 3) := by decide +kernel
theorem dX12_feed_14 : decode cX12_feed 14 = .ok (.ifCond .ne 6, 3) := by decide +kernel
theorem dX12_feed_17 : decode cX12_feed 17 = .ok (.ldc 73, 2) := by decide +kernel
theorem dX12_feed_19 : decode cX12_feed 19 = .ok (.ireturn, 1) := by decide +kernel
theorem dX12_feed_20 : decode cX12_feed 20 = .ok (.aload_n 0, 1) := by decide +kernel
theorem dX12_feed_21 : decode cX12_feed 21 = .ok (.getfield 80, 3) := by decide +kernel
theorem dX12_feed_24 : decode cX12_feed 24 = .ok (.sipush 140, 3) := by decide +kernel
theorem dX12_feed_27 : decode cX12_feed 27 = .ok (.if_icmp .ne 6, 3) := by decide +kernel
theorem dX12_feed_30 : decode cX12_feed 30 = .ok (.ldc 83, 2) := by decide +kernel
theorem dX12_feed_32 : decode cX12_feed 32 = .ok (.ireturn, 1) := by decide +kernel
theorem dX12_feed_33 : decode cX12_feed 33 = .ok (.aload_n 0, 1) := by decide +kernel
theorem dX12_feed_34 : decode cX12_feed 34 = .ok (.getfield 28, 3) := by decide +kernel
theorem dX12_feed_37 : decode cX12_feed 37 = .ok (.aload_n 0, 1) := by decide +kernel
theorem dX12_feed_38 : decode cX12_feed 38 = .ok (.getfield 80, 3) := by decide +kernel
theorem dX12_feed_41 : decode cX12_feed 41 = .ok (.iload_n 1, 1) := by decide +kernel
theorem dX12_feed_42 : decode cX12_feed 42 = .ok (.iastore, 1) := by decide +kernel
theorem dX12_feed_43 : decode cX12_feed 43 = .ok (.aload_n 0, 1) := by decide +kernel
theorem dX12_feed_44 : decode cX12_feed 44 = .ok (.dup, 1) := by decide +kernel
theorem dX12_feed_45 : decode cX12_feed 45 = .ok (.getfield 80, 3) := by decide +kernel
theorem dX12_feed_48 : decode cX12_feed 48 = .ok (.iconst 1, 1) := by decide +kernel
theorem dX12_feed_49 : decode cX12_feed 49 = .ok (.iadd, 1) := by decide +kernel
theorem dX12_feed_50 : decode cX12_feed 50 = .ok (.putfield 80, 3) := by decide +kernel
theorem dX12_feed_53 : decode cX12_feed 53 = .ok (.aload_n 0, 1) := by decide +kernel
theorem dX12_feed_54 : decode cX12_feed 54 = .ok (.getfield 80, 3) := by decide +kernel
theorem dX12_feed_57 : decode cX12_feed 57 = .ok (.ireturn, 1) := by decide +kernel
theorem dX12_bad_0 : decode cX12_bad 0 = .ok (.aload_n 0, 1) := by decide +kernel
theorem dX12_bad_1 : decode cX12_bad 1 = .ok (.getfield 84, 3) := by decide +kernel
theorem dX12_bad_4 : decode cX12_bad 4 = .ok (.ifCond .ne 16, 3) := by decide +kernel
theorem dX12_bad_7 : decode cX12_bad 7 = .ok (.aload_n 0, 1) := by decide +kernel
theorem dX12_bad_8 : decode cX12_bad 8 = .ok (.iload_n 1, 1) := by decide +kernel
theorem dX12_bad_9 : decode cX12_bad 9 = .ok (.putfield 84, 3) := by decide +kernel
theorem dX12_bad_12 : decode cX12_bad 12 = .ok (.aload_n 0, 1) := by decide +kernel
theorem dX12_bad_13 : decode cX12_bad 13 = .ok (.aload_n 0, 1) := by decide +kernel
theorem dX12_bad_14 : decode cX12_bad 14 = .ok (.getfield 87, 3) := by decide +kernel
theorem dX12_bad_17 : decode cX12_bad 17 = .ok (.putfield 90, 3) := by decide +kernel
theorem dX12_bad_20 : decode cX12_bad 20 = .ok (.return_, 1) := by decide +kernel
theorem dX12_nextToken_0 : decode cX12_nextToken 0 = .ok (.aload_n 0, 1) := by decide +kernel
theorem dX12_nextToken_1 : decode cX12_nextToken 1 = .ok (.aload_n 0, 1) := by decide +kernel
theorem dX12_nextToken_2 : decode cX12_nextToken 2 = .ok (.getfield 93, 3) := by decide +kernel
theorem dX12_nextToken_5 : decode cX12_nextToken 5 = .ok (.putfield 87, 3) := by decide +kernel
theorem dX12_nextToken_8 : decode cX12_nextToken 8 = .ok (.aload_n 0, 1) := by decide +kernel
theorem dX12_nextToken_9 : decode cX12_nextToken 9 = .ok (.aload_n 0, 1) := by decide +kernel
theorem dX12_nextToken_10 : decode cX12_nextToken 10 = .ok (.getfield 93, 3) := by decide +kernel
theorem dX12_nextToken_13 : decode cX12_nextToken 13 = .ok (.aload_n 0, 1) := by decide +kernel
theorem dX12_nextToken_14 : decode cX12_nextToken 14 = .ok (.getfield 80, 3) := by decide +kernel
theorem dX12_nextToken_17 : decode cX12_nextToken 17 = .ok (.if_icmp .ge 15, 3) := by decide +kernel
theorem dX12_nextToken_20 : decode cX12_nextToken 20 = .ok (.aload_n 0, 1) := by decide +kernel
theorem dX12_nextToken_21 : decode cX12_nextToken 21 = .ok (.getfield 28, 3) := by decide +kernel
theorem dX12_nextToken_24 : decode cX12_nextToken 24 = .ok (.aload_n 0, 1) := by decide +kernel
theorem dX12_nextToken_25 : decode cX12_nextToken 25 = .ok (.getfield 93, 3) := by decide +kernel
theorem dX12_nextToken_28 : decode cX12_nextToken 28 = .ok (.iaload, 1) := by decide +kernel
theorem dX12_nextToken_29 : decode cX12_nextToken 29 = .ok (.goto 5, 3) := by decide +kernel
theorem dX12_nextToken_32 : decode cX12_nextToken 32 = .ok (.ldc 96, 2) := by decide +kernel
theorem dX12_nextToken_34 : decode cX12_nextToken 34 = .ok (.putfield 97, 3) := by decide +kernel
theorem dX12_nextToken_37 : decode cX12_nextToken 37 = .ok (.aload_n 0, 1) := by decide +kernel
theorem dX12_nextToken_38 : decode cX12_nextToken 38 = .ok (.aload_n 0, 1) := by decide +kernel
theorem dX12_nextToken_39 : decode cX12_nextToken 39 = .ok (.getfield 93, 3) := by decide +kernel
theorem dX12_nextToken_42 : decode cX12_nextToken 42 = .ok (.aload_n 0, 1) := by decide +kernel
theorem dX12_nextToken_43 : decode cX12_nextToken 43 = .ok (.getfield 80, 3) := by decide +kernel
theorem dX12_nextToken_46 : decode cX12_nextToken 46 = .ok (.if_icmp .ne 7, 3) := by decide +kernel
theorem dX12_nextToken_49 : decode cX12_nextToken 49 = .ok (.iconst 1, 1) := by decide +kernel
theorem dX12_nextToken_50 : decode cX12_nextToken 50 = .ok (.goto 68, 3) := by decide +kernel
theorem dX12_nextToken_53 : decode cX12_nextToken 53 = .ok (.aload_n 0, 1) := by decide +kernel
theorem dX12_nextToken_54 : decode cX12_nextToken 54 = .ok (.getfield 97, 3) := by decide +kernel
theorem dX12_nextToken_57 : decode cX12_nextToken 57 = .ok (.i2l, 1) := by decide +kernel
theorem dX12_nextToken_58 : decode cX12_nextToken 58 = .ok (.ldc2_w 100, 3) := by decide +kernel
theorem dX12_nextToken_61 : decode cX12_nextToken 61 = .ok (.ldc2_w 102, 3) := by decide +kernel
theorem dX12_nextToken_64 : decode cX12_nextToken 64 = .ok (.invokestatic 63, 3) := by decide +kernel
theorem dX12_nextToken_67 : decode cX12_nextToken 67 = .ok (.ifCond .eq 7, 3) := by decide +kernel
theorem dX12_nextToken_70 : decode cX12_nextToken 70 = .ok (.iconst 2, 1) := by decide +kernel
theorem dX12_nextToken_71 : decode cX12_nextToken 71 = .ok (.goto 47, 3) := by decide +kernel
theorem dX12_nextToken_74 : decode cX12_nextToken 74 = .ok (.aload_n 0, 1) := by decide +kernel
theorem dX12_nextToken_75 : decode cX12_nextToken 75 = .ok (.getfield 97, 3) := by decide +kernel
theorem dX12_nextToken_78 : decode cX12_nextToken 78 = .ok (.i2l, 1) := by decide +kernel
theorem dX12_nextToken_79 : decode cX12_nextToken 79 = .ok (.ldc2_w 104, 3) := by decide +kernel
theorem dX12_nextToken_82 : decode cX12_nextToken 82 = .ok (.ldc2_w 106, 3) := by decide +kernel
theorem dX12_nextToken_85 : decode cX12_nextToken 85 = .ok (.invokestatic 63, 3) := by decide +kernel
theorem dX12_nextToken_88 : decode cX12_nextToken 88 = .ok (.ifCond .eq 7, 3) := by decide +kernel
theorem dX12_nextToken_91 : decode cX12_nextToken 91 = .ok (.iconst 3, 1) := by decide +kernel
theorem dX12_nextToken_92 : decode cX12_nextToken 92 = .ok (.goto 26, 3) := by decide +kernel
theorem dX12_nextToken_95 : decode cX12_nextToken 95 = .ok (.aload_n 0, 1) := by decide +kernel
theorem dX12_nextToken_96 : decode cX12_nextToken 96 = .ok (.getfield 97, 3) := by decide +kernel
theorem dX12_nextToken_99 : decode cX12_nextToken 99 = .ok (.bipush 44, 2) := by decide +kernel
theorem dX12_nextToken_101 : decode cX12_nextToken 101 = .ok (.if_icmp .eq 12, 3) := by decide +kernel
theorem dX12_nextToken_104 : decode cX12_nextToken 104 = .ok (.aload_n 0, 1) := by decide +kernel
theorem dX12_nextToken_105 : decode cX12_nextToken 105 = .ok (.getfield 97, 3) := by decide +kernel
theorem dX12_nextToken_108 : decode cX12_nextToken 108 = .ok (.bipush 59, 2) := by decide +kernel
theorem dX12_nextToken_110 : decode cX12_nextToken 110 = .ok (.if_icmp .ne 7, 3) := by decide +kernel
theorem dX12_nextToken_113 : decode cX12_nextToken 113 = .ok (.iconst 4, 1) := by decide +kernel
theorem dX12_nextToken_114 : decode cX12_nextToken 114 = .ok (.goto 4, 3) := by decide +kernel
theorem dX12_nextToken_117 : decode cX12_nextToken 117 = .ok (.iconst 0, 1) := by decide +kernel
theorem dX12_nextToken_118 : decode cX12_nextToken 118 = .ok (.putfield 108, 3) := by decide +kernel
theorem dX12_nextToken_121 : decode cX12_nextToken 121 = .ok (.aload_n 0, 1) := by decide +kernel
theorem dX12_nextToken_122 : decode cX12_nextToken 122 = .ok (.dup, 1) := by decide +kernel
theorem dX12_nextToken_123 : decode cX12_nextToken 123 = .ok (.getfield 93, 3) := by decide +kernel
theorem dX12_nextToken_126 : decode cX12_nextToken 126 = .ok (.aload_n 0, 1) := by decide +kernel
theorem dX12_nextToken_127 : decode cX12_nextToken 127 = .ok (.getfield 93, 3) := by decide +kernel
theorem dX12_nextToken_130 : decode cX12_nextToken 130 = .ok (.aload_n 0, 1) := by decide +kernel
theorem dX12_nextToken_131 : decode cX12_nextToken 131 = .ok (.getfield 80, 3) := by decide +kernel
theorem dX12_nextToken_134 : decode cX12_nextToken 134 = .ok (.if_icmp .ge 7, 3) := by decide +kernel
theorem dX12_nextToken_137 : decode cX12_nextToken 137 = .ok (.iconst 1, 1) := by decide +kernel
theorem dX12_nextToken_138 : decode cX12_nextToken 138 = .ok (.goto 4, 3) := by decide +kernel
theorem dX12_nextToken_141 : decode cX12_nextToken 141 = .ok (.iconst 0, 1) := by decide +kernel
theorem dX12_nextToken_142 : decode cX12_nextToken 142 = .ok (.iadd, 1) := by decide +kernel
theorem dX12_nextToken_143 : decode cX12_nextToken 143 = .ok (.putfield 93, 3) := by decide +kernel
theorem dX12_nextToken_146 : decode cX12_nextToken 146 = .ok (.aload_n 0, 1) := by decide +kernel
theorem dX12_nextToken_147 : decode cX12_nextToken 147 = .ok (.getfield 108, 3) := by decide +kernel
theorem dX12_nextToken_150 : decode cX12_nextToken 150 = .ok (.iconst 3, 1) := by decide +kernel
theorem dX12_nextToken_151 : decode cX12_nextToken 151 = .ok (.if_icmp .ne 126, 3) := by decide +kernel
theorem dX12_nextToken_154 : decode cX12_nextToken 154 = .ok (.aload_n 0, 1) := by decide +kernel
theorem dX12_nextToken_155 : decode cX12_nextToken 155 = .ok (.dup, 1) := by decide +kernel
theorem dX12_nextToken_156 : decode cX12_nextToken 156 = .ok (.getfield 97, 3) := by decide +kernel
theorem dX12_nextToken_159 : decode cX12_nextToken 159 = .ok (.bipush 48, 2) := by decide +kernel
theorem dX12_nextToken_161 : decode cX12_nextToken 161 = .ok (.isub, 1) := by decide +kernel
theorem dX12_nextToken_162 : decode cX12_nextToken 162 = .ok (.putfield 97, 3) := by decide +kernel
theorem dX12_nextToken_165 : decode cX12_nextToken 165 = .ok (.aload_n 0, 1) := by decide +kernel
theorem dX12_nextToken_166 : decode cX12_nextToken 166 = .ok (.getfield 93, 3) := by decide +kernel
theorem dX12_nextToken_169 : decode cX12_nextToken 169 = .ok (.aload_n 0, 1) := by decide +kernel
theorem dX12_nextToken_170 : decode cX12_nextToken 170 = .ok (.getfield 80, 3) := by decide +kernel
theorem dX12_nextToken_173 : decode cX12_nextToken 173 = .ok (.if_icmp .ge 82, 3) := by decide +kernel
theorem dX12_nextToken_176 : decode cX12_nextToken 176 = .ok (.aload_n 0, 1) := by decide +kernel
theorem dX12_nextToken_177 : decode cX12_nextToken 177 = .ok (.getfield 28, 3) := by decide +kernel
theorem dX12_nextToken_180 : decode cX12_nextToken 180 = .ok (.aload_n 0, 1) := by decide +kernel
theorem dX12_nextToken_181 : decode cX12_nextToken 181 = .ok (.getfield 93, 3) := by decide +kernel
theorem dX12_nextToken_184 : decode cX12_nextToken 184 = .ok (.iaload, 1) := by decide +kernel
theorem dX12_nextToken_185 : decode cX12_nextToken 185 = .ok (.i2l, 1) := by decide +kernel
theorem dX12_nextToken_186 : decode cX12_nextToken 186 = .ok (.ldc2_w 104, 3) := by decide +kernel
theorem dX12_nextToken_189 : decode cX12_nextToken 189 = .ok (.ldc2_w 106, 3) := by decide +kernel
theorem dX12_nextToken_192 : decode cX12_nextToken 192 = .ok (.invokestatic 63, 3) := by decide +kernel
theorem dX12_nextToken_195 : decode cX12_nextToken 195 = .ok (.ifCond .eq 60, 3) := by decide +kernel
theorem dX12_nextToken_198 : decode cX12_nextToken 198 = .ok (.aload_n 0, 1) := by decide +kernel
theorem dX12_nextToken_199 : decode cX12_nextToken 199 = .ok (.aload_n 0, 1) := by decide +kernel
theorem dX12_nextToken_200 : decode cX12_nextToken 200 = .ok (.getfield 93, 3) := by decide +kernel
theorem dX12_nextToken_203 : decode cX12_nextToken 203 = .ok (.aload_n 0, 1) := by decide +kernel
theorem dX12_nextToken_204 : decode cX12_nextToken 204 = .ok (.getfield 87, 3) := by decide +kernel
theorem dX12_nextToken_207 : decode cX12_nextToken 207 = .ok (.isub, 1) := by decide +kernel
theorem dX12_nextToken_208 : decode cX12_nextToken 208 = .ok (.iconst 2, 1) := by decide +kernel
theorem dX12_nextToken_209 : decode cX12_nextToken 209 = .ok (.if_icmp .ge 26, 3) := by decide +kernel
theorem dX12_nextToken_212 : decode cX12_nextToken 212 = .ok (.bipush 10, 2) := by decide +kernel
theorem dX12_nextToken_214 : decode cX12_nextToken 214 = .ok (.aload_n 0, 1) := by decide +kernel
theorem dX12_nextToken_215 : decode cX12_nextToken 215 = .ok (.getfield 97, 3) := by decide +kernel
theorem dX12_nextToken_218 : decode cX12_nextToken 218 = .ok (.imul, 1) := by decide +kernel
theorem dX12_nextToken_219 : decode cX12_nextToken 219 = .ok (.aload_n 0, 1) := by decide +kernel
theorem dX12_nextToken_220 : decode cX12_nextToken 220 = .ok (.getfield 28, 3) := by decide +kernel
theorem dX12_nextToken_223 : decode cX12_nextToken 223 = .ok (.aload_n 0, 1) := by decide +kernel
theorem dX12_nextToken_224 : decode cX12_nextToken 224 = .ok (.getfield 93, 3) := by decide +kernel
theorem dX12_nextToken_227 : decode cX12_nextToken 227 = .ok (.iaload, 1) := by decide +kernel
theorem dX12_nextToken_228 : decode cX12_nextToken 228 = .ok (.iadd, 1) := by decide +kernel
theorem dX12_nextToken_229 : decode cX12_nextToken 229 = .ok (.bipush 48, 2) := by decide +kernel
theorem dX12_nextToken_231 : decode cX12_nextToken 231 = .ok (.isub, 1) := by decide +kernel
theorem dX12_nextToken_232 : decode cX12_nextToken 232 = .ok (.goto 7, 3) := by decide +kernel
theorem dX12_nextToken_235 : decode cX12_nextToken 235 = .ok (.aload_n 0, 1) := by decide +kernel
theorem dX12_nextToken_236 : decode cX12_nextToken 236 = .ok (.getfield 97, 3) := by decide +kernel
theorem dX12_nextToken_239 : decode cX12_nextToken 239 = .ok (.putfield 97, 3) := by decide +kernel
theorem dX12_nextToken_242 : decode cX12_nextToken 242 = .ok (.aload_n 0, 1) := by decide +kernel
theorem dX12_nextToken_243 : decode cX12_nextToken 243 = .ok (.dup, 1) := by decide +kernel
theorem dX12_nextToken_244 : decode cX12_nextToken 244 = .ok (.getfield 93, 3) := by decide +kernel
theorem dX12_nextToken_247 : decode cX12_nextToken 247 = .ok (.iconst 1, 1) := by decide +kernel
theorem dX12_nextToken_248 : decode cX12_nextToken 248 = .ok (.iadd, 1) := by decide +kernel
theorem dX12_nextToken_249 : decode cX12_nextToken 249 = .ok (.putfield 93, 3) := by decide +kernel
theorem dX12_nextToken_252 : decode cX12_nextToken 252 = .ok (.goto (-87), 3) := by decide +kernel
theorem dX12_nextToken_255 : decode cX12_nextToken 255 = .ok (.aload_n 0, 1) := by decide +kernel
theorem dX12_nextToken_256 : decode cX12_nextToken 256 = .ok (.aload_n 0, 1) := by decide +kernel
theorem dX12_nextToken_257 : decode cX12_nextToken 257 = .ok (.getfield 93, 3) := by decide +kernel
theorem dX12_nextToken_260 : decode cX12_nextToken 260 = .ok (.aload_n 0, 1) := by decide +kernel
theorem dX12_nextToken_261 : decode cX12_nextToken 261 = .ok (.getfield 87, 3) := by decide +kernel
theorem dX12_nextToken_264 : decode cX12_nextToken 264 = .ok (.isub, 1) := by decide +kernel
theorem dX12_nextToken_265 : decode cX12_nextToken 265 = .ok (.iconst 2, 1) := by decide +kernel
theorem dX12_nextToken_266 : decode cX12_nextToken 266 = .ok (.if_icmp .le 7, 3) := by decide +kernel
theorem dX12_nextToken_269 : decode cX12_nextToken 269 = .ok (.iconst 0, 1) := by decide +kernel
theorem dX12_nextToken_270 : decode cX12_nextToken 270 = .ok (.goto 4, 3) := by decide +kernel
theorem dX12_nextToken_273 : decode cX12_nextToken 273 = .ok (.iconst 3, 1) := by decide +kernel
theorem dX12_nextToken_274 : decode cX12_nextToken 274 = .ok (.putfield 108, 3) := by decide +kernel
theorem dX12_nextToken_277 : decode cX12_nextToken 277 = .ok (.return_, 1) := by decide +kernel
theorem dX12_must_0 : decode cX12_must 0 = .ok (.iload_n 1, 1) := by decide +kernel
theorem dX12_must_1 : decode cX12_must 1 = .ok (.ifCond .ne 8, 3) := by decide +kernel
theorem dX12_must_4 : decode cX12_must 4 = .ok (.aload_n 0, 1) := by decide +kernel
theorem dX12_must_5 : decode cX12_must 5 = .ok (.iconst 1, 1) := by decide +kernel
theorem dX12_must_6 : decode cX12_must 6 = .ok (.invokevirtual 111, 3) := by decide +kernel
theorem dX12_must_9 : decode cX12_must 9 = .ok (.aload_n 0, 1) := by decide +kernel
theorem dX12_must_10 : decode cX12_must 10 = .ok (.getfield 84, 3) := by decide +kernel
theorem dX12_must_13 : decode cX12_must 13 = .ok (.ifCond .ne 7, 3) := by decide +kernel
theorem dX12_must_16 : decode cX12_must 16 = .ok (.aload_n 0, 1) := by decide +kernel
theorem dX12_must_17 : decode cX12_must 17 = .ok (.invokevirtual 115, 3) := by decide +kernel
theorem dX12_must_20 : decode cX12_must 20 = .ok (.return_, 1) := by decide +kernel
theorem dX12_isLetter_0 : decode cX12_isLetter 0 = .ok (.aload_n 0, 1) := by decide +kernel
theorem dX12_isLetter_1 : decode cX12_isLetter 1 = .ok (.getfield 84, 3) := by decide +kernel
theorem dX12_isLetter_4 : decode cX12_isLetter 4 = .ok (.ifCond .ne 23, 3) := by decide +kernel
theorem dX12_isLetter_7 : decode cX12_isLetter 7 = .ok (.aload_n 0, 1) := by decide +kernel
theorem dX12_isLetter_8 : decode cX12_isLetter 8 = .ok (.getfield 108, 3) := by decide +kernel
theorem dX12_isLetter_11 : decode cX12_isLetter 11 = .ok (.iconst 2, 1) := by decide +kernel
theorem dX12_isLetter_12 : decode cX12_isLetter 12 = .ok (.if_icmp .ne 15, 3) := by decide +kernel
theorem dX12_isLetter_15 : decode cX12_isLetter 15 = .ok (.aload_n 0, 1) := by decide +kernel
theorem dX12_isLetter_16 : decode cX12_isLetter 16 = .ok (.getfield 97, 3) := by decide +kernel
theorem dX12_isLetter_19 : decode cX12_isLetter 19 = .ok (.iload_n 1, 1) := by decide +kernel
theorem dX12_isLetter_20 : decode cX12_isLetter 20 = .ok (.if_icmp .ne 7, 3) := by decide +kernel
theorem dX12_isLetter_23 : decode cX12_isLetter 23 = .ok (.iconst 1, 1) := by decide +kernel
theorem dX12_isLetter_24 : decode cX12_isLetter 24 = .ok (.goto 4, 3) := by decide +kernel
theorem dX12_isLetter_27 : decode cX12_isLetter 27 = .ok (.iconst 0, 1) := by decide +kernel
theorem dX12_isLetter_28 : decode cX12_isLetter 28 = .ok (.ireturn, 1) := by decide +kernel
theorem dX12_number_0 : decode cX12_number 0 = .ok (.aload_n 0, 1) := by decide +kernel
theorem dX12_number_1 : decode cX12_number 1 = .ok (.getfield 84, 3) := by decide +kernel
theorem dX12_number_4 : decode cX12_number 4 = .ok (.ifCond .ne 16, 3) := by decide +kernel
theorem dX12_number_7 : decode cX12_number 7 = .ok (.aload_n 0, 1) := by decide +kernel
theorem dX12_number_8 : decode cX12_number 8 = .ok (.getfield 108, 3) := by decide +kernel
theorem dX12_number_11 : decode cX12_number 11 = .ok (.iconst 3, 1) := by decide +kernel
theorem dX12_number_12 : decode cX12_number 12 = .ok (.if_icmp .eq 8, 3) := by decide +kernel
theorem dX12_number_15 : decode cX12_number 15 = .ok (.aload_n 0, 1) := by decide +kernel
theorem dX12_number_16 : decode cX12_number 16 = .ok (.iconst 1, 1) := by decide +kernel
theorem dX12_number_17 : decode cX12_number 17 = .ok (.invokevirtual 111, 3) := by decide +kernel
theorem dX12_number_20 : decode cX12_number 20 = .ok (.aload_n 0, 1) := by decide +kernel
theorem dX12_number_21 : decode cX12_number 21 = .ok (.getfield 84, 3) := by decide +kernel
theorem dX12_number_24 : decode cX12_number 24 = .ok (.ifCond .ne 23, 3) := by decide +kernel
theorem dX12_number_27 : decode cX12_number 27 = .ok (.aload_n 0, 1) := by decide +kernel
theorem dX12_number_28 : decode cX12_number 28 = .ok (.getfield 97, 3) := by decide +kernel
theorem dX12_number_31 : decode cX12_number 31 = .ok (.i2l, 1) := by decide +kernel
theorem dX12_number_32 : decode cX12_number 32 = .ok (.iload_n 1, 1) := by decide +kernel
theorem dX12_number_33 : decode cX12_number 33 = .ok (.i2l, 1) := by decide +kernel
theorem dX12_number_34 : decode cX12_number 34 = .ok (.iload_n 2, 1) := by decide +kernel
theorem dX12_number_35 : decode cX12_number 35 = .ok (.i2l, 1) := by decide +kernel
theorem dX12_number_36 : decode cX12_number 36 = .ok (.invokestatic 63, 3) := by decide +kernel
theorem dX12_number_39 : decode cX12_number 39 = .ok (.ifCond .ne 8, 3) := by decide +kernel
theorem dX12_number_42 : decode cX12_number 42 = .ok (.aload_n 0, 1) := by decide +kernel
theorem dX12_number_43 : decode cX12_number 43 = .ok (.iconst 2, 1) := by decide +kernel
theorem dX12_number_44 : decode cX12_number 44 = .ok (.invokevirtual 111, 3) := by decide +kernel
theorem dX12_number_47 : decode cX12_number 47 = .ok (.aload_n 0, 1) := by decide +kernel
theorem dX12_number_48 : decode cX12_number 48 = .ok (.getfield 84, 3) := by decide +kernel
theorem dX12_number_51 : decode cX12_number 51 = .ok (.ifCond .ne 10, 3) := by decide +kernel
theorem dX12_number_54 : decode cX12_number 54 = .ok (.aload_n 0, 1) := by decide +kernel
theorem dX12_number_55 : decode cX12_number 55 = .ok (.getfield 97, 3) := by decide +kernel
theorem dX12_number_58 : decode cX12_number 58 = .ok (.goto 4, 3) := by decide +kernel
theorem dX12_number_61 : decode cX12_number 61 = .ok (.iload_n 1, 1) := by decide +kernel
theorem dX12_number_62 : decode cX12_number 62 = .ok (.istore_n 3, 1) := by decide +kernel
theorem dX12_number_63 : decode cX12_number 63 = .ok (.aload_n 0, 1) := by decide +kernel
theorem dX12_number_64 : decode cX12_number 64 = .ok (.iconst 1, 1) := by decide +kernel
theorem dX12_number_65 : decode cX12_number 65 = .ok (.invokevirtual 118, 3) := by decide +kernel
theorem dX12_number_68 : decode cX12_number 68 = .ok (.iload_n 3, 1) := by decide +kernel
theorem dX12_number_69 : decode cX12_number 69 = .ok (.ireturn, 1) := by decide +kernel
theorem dX12_mustSign_0 : decode cX12_mustSign 0 = .ok (.aload_n 0, 1) := by decide +kernel
theorem dX12_mustSign_1 : decode cX12_mustSign 1 = .ok (.aload_n 0, 1) := by decide +kernel
theorem dX12_mustSign_2 : decode cX12_mustSign 2 = .ok (.getfield 108, 3) := by decide +kernel
theorem dX12_mustSign_5 : decode cX12_mustSign 5 = .ok (.iconst 4, 1) := by decide +kernel
theorem dX12_mustSign_6 : decode cX12_mustSign 6 = .ok (.if_icmp .ne 15, 3) := by decide +kernel
theorem dX12_mustSign_9 : decode cX12_mustSign 9 = .ok (.aload_n 0, 1) := by decide +kernel
theorem dX12_mustSign_10 : decode cX12_mustSign 10 = .ok (.getfield 97, 3) := by decide +kernel
theorem dX12_mustSign_13 : decode cX12_mustSign 13 = .ok (.iload_n 1, 1) := by decide +kernel
theorem dX12_mustSign_14 : decode cX12_mustSign 14 = .ok (.if_icmp .ne 7, 3) := by decide +kernel
theorem dX12_mustSign_17 : decode cX12_mustSign 17 = .ok (.iconst 1, 1) := by decide +kernel
theorem dX12_mustSign_18 : decode cX12_mustSign 18 = .ok (.goto 4, 3) := by decide +kernel
theorem dX12_mustSign_21 : decode cX12_mustSign 21 = .ok (.iconst 0, 1) := by decide +kernel
theorem dX12_mustSign_22 : decode cX12_mustSign 22 = .ok (.invokevirtual 118, 3) := by decide +kernel
theorem dX12_mustSign_25 : decode cX12_mustSign 25 = .ok (.return_, 1) := by decide +kernel
theorem dX12_begin_0 : decode cX12_begin 0 = .ok (.aload_n 0, 1) := by decide +kernel
theorem dX12_begin_1 : decode cX12_begin 1 = .ok (.iconst 0, 1) := by decide +kernel
theorem dX12_begin_2 : decode cX12_begin 2 = .ok (.putfield 93, 3) := by decide +kernel
theorem dX12_begin_5 : decode cX12_begin 5 = .ok (.aload_n 0, 1) := by decide +kernel
theorem dX12_begin_6 : decode cX12_begin 6 = .ok (.iconst 0, 1) := by decide +kernel
theorem dX12_begin_7 : decode cX12_begin 7 = .ok (.putfield 84, 3) := by decide +kernel
theorem dX12_begin_10 : decode cX12_begin 10 = .ok (.aload_n 0, 1) := by decide +kernel
theorem dX12_begin_11 : decode cX12_begin 11 = .ok (.invokevirtual 115, 3) := by decide +kernel
theorem dX12_begin_14 : decode cX12_begin 14 = .ok (.return_, 1) := by decide +kernel
theorem dX12_failed_0 : decode cX12_failed 0 = .ok (.aload_n 0, 1) := by decide +kernel
theorem dX12_failed_1 : decode cX12_failed 1 = .ok (.getfield 84, 3) := by decide +kernel
theorem dX12_failed_4 : decode cX12_failed 4 = .ok (.ifCond .ne 16, 3) := by decide +kernel
theorem dX12_failed_7 : decode cX12_failed 7 = .ok (.aload_n 0, 1) := by decide +kernel
theorem dX12_failed_8 : decode cX12_failed 8 = .ok (.getfield 108, 3) := by decide +kernel
theorem dX12_failed_11 : decode cX12_failed 11 = .ok (.iconst 1, 1) := by decide +kernel
theorem dX12_failed_12 : decode cX12_failed 12 = .ok (.if_icmp .eq 8, 3) := by decide +kernel
theorem dX12_failed_15 : decode cX12_failed 15 = .ok (.aload_n 0, 1) := by decide +kernel
theorem dX12_failed_16 : decode cX12_failed 16 = .ok (.iconst 1, 1) := by decide +kernel
theorem dX12_failed_17 : decode cX12_failed 17 = .ok (.invokevirtual 111, 3) := by decide +kernel
theorem dX12_failed_20 : decode cX12_failed 20 = .ok (.aload_n 0, 1) := by decide +kernel
theorem dX12_failed_21 : decode cX12_failed 21 = .ok (.iconst 0, 1) := by decide +kernel
theorem dX12_failed_22 : decode cX12_failed 22 = .ok (.putfield 80, 3) := by decide +kernel
theorem dX12_failed_25 : decode cX12_failed 25 = .ok (.aload_n 0, 1) := by decide +kernel
theorem dX12_failed_26 : decode cX12_failed 26 = .ok (.aload_n 0, 1) := by decide +kernel
theorem dX12_failed_27 : decode cX12_failed 27 = .ok (.getfield 84, 3) := by decide +kernel
theorem dX12_failed_30 : decode cX12_failed 30 = .ok (.ifCond .le 10, 3) := by decide +kernel
theorem dX12_failed_33 : decode cX12_failed 33 = .ok (.aload_n 0, 1) := by decide +kernel
theorem dX12_failed_34 : decode cX12_failed 34 = .ok (.getfield 84, 3) := by decide +kernel
theorem dX12_failed_37 : decode cX12_failed 37 = .ok (.goto 7, 3) := by decide +kernel
theorem dX12_failed_40 : decode cX12_failed 40 = .ok (.aload_n 0, 1) := by decide +kernel
theorem dX12_failed_41 : decode cX12_failed 41 = .ok (.getfield 122, 3) := by decide +kernel
theorem dX12_failed_44 : decode cX12_failed 44 = .ok (.putfield 122, 3) := by decide +kernel
theorem dX12_failed_47 : decode cX12_failed 47 = .ok (.aload_n 0, 1) := by decide +kernel
theorem dX12_failed_48 : decode cX12_failed 48 = .ok (.getfield 84, 3) := by decide +kernel
theorem dX12_failed_51 : decode cX12_failed 51 = .ok (.ifCond .le 7, 3) := by decide +kernel
theorem dX12_failed_54 : decode cX12_failed 54 = .ok (.iconst 1, 1) := by decide +kernel
theorem dX12_failed_55 : decode cX12_failed 55 = .ok (.goto 4, 3) := by decide +kernel
theorem dX12_failed_58 : decode cX12_failed 58 = .ok (.iconst 0, 1) := by decide +kernel
theorem dX12_failed_59 : decode cX12_failed 59 = .ok (.ireturn, 1) := by decide +kernel
theorem dX12_fault_0 : decode cX12_fault 0 = .ok (.aload_n 0, 1) := by decide +kernel
theorem dX12_fault_1 : decode cX12_fault 1 = .ok (.iconst 0, 1) := by decide +kernel
theorem dX12_fault_2 : decode cX12_fault 2 = .ok (.putfield 53, 3) := by decide +kernel
theorem dX12_fault_5 : decode cX12_fault 5 = .ok (.aload_n 0, 1) := by decide +kernel
theorem dX12_fault_6 : decode cX12_fault 6 = .ok (.getfield 122, 3) := by decide +kernel
theorem dX12_fault_9 : decode cX12_fault 9 = .ok (.ireturn, 1) := by decide +kernel
theorem dX12_kindBy_0 : decode cX12_kindBy 0 = .ok (.iload_n 0, 1) := by decide +kernel
theorem dX12_kindBy_1 : decode cX12_kindBy 1 = .ok (.bipush 118, 2) := by decide +kernel
theorem dX12_kindBy_3 : decode cX12_kindBy 3 = .ok (.if_icmp .ne 7, 3) := by decide +kernel
theorem dX12_kindBy_6 : decode cX12_kindBy 6 = .ok (.iconst 1, 1) := by decide +kernel
theorem dX12_kindBy_7 : decode cX12_kindBy 7 = .ok (.goto 45, 3) := by decide +kernel
theorem dX12_kindBy_10 : decode cX12_kindBy 10 = .ok (.iload_n 0, 1) := by decide +kernel
theorem dX12_kindBy_11 : decode cX12_kindBy 11 = .ok (.bipush 107, 2) := by decide +kernel
theorem dX12_kindBy_13 : decode cX12_kindBy 13 = .ok (.if_icmp .ne 7, 3) := by decide +kernel
theorem dX12_kindBy_16 : decode cX12_kindBy 16 = .ok (.iconst 2, 1) := by decide +kernel
theorem dX12_kindBy_17 : decode cX12_kindBy 17 = .ok (.goto 35, 3) := by decide +kernel
theorem dX12_kindBy_20 : decode cX12_kindBy 20 = .ok (.iload_n 0, 1) := by decide +kernel
theorem dX12_kindBy_21 : decode cX12_kindBy 21 = .ok (.bipush 114, 2) := by decide +kernel
theorem dX12_kindBy_23 : decode cX12_kindBy 23 = .ok (.if_icmp .ne 7, 3) := by decide +kernel
theorem dX12_kindBy_26 : decode cX12_kindBy 26 = .ok (.iconst 3, 1) := by decide +kernel
theorem dX12_kindBy_27 : decode cX12_kindBy 27 = .ok (.goto 25, 3) := by decide +kernel
theorem dX12_kindBy_30 : decode cX12_kindBy 30 = .ok (.iload_n 0, 1) := by decide +kernel
theorem dX12_kindBy_31 : decode cX12_kindBy 31 = .ok (.bipush 103, 2) := by decide +kernel
theorem dX12_kindBy_33 : decode cX12_kindBy 33 = .ok (.if_icmp .ne 7, 3) := by decide +kernel
theorem dX12_kindBy_36 : decode cX12_kindBy 36 = .ok (.iconst 4, 1) := by decide +kernel
theorem dX12_kindBy_37 : decode cX12_kindBy 37 = .ok (.goto 15, 3) := by decide +kernel
theorem dX12_kindBy_40 : decode cX12_kindBy 40 = .ok (.iload_n 0, 1) := by decide +kernel
theorem dX12_kindBy_41 : decode cX12_kindBy 41 = .ok (.bipush 115, 2) := by decide +kernel
theorem dX12_kindBy_43 : decode cX12_kindBy 43 = .ok (.if_icmp .ne 7, 3) := by decide +kernel
theorem dX12_kindBy_46 : decode cX12_kindBy 46 = .ok (.iconst 5, 1) := by decide +kernel
theorem dX12_kindBy_47 : decode cX12_kindBy 47 = .ok (.goto 5, 3) := by decide +kernel
theorem dX12_kindBy_50 : decode cX12_kindBy 50 = .ok (.ldc 96, 2) := by decide +kernel
theorem dX12_kindBy_52 : decode cX12_kindBy 52 = .ok (.ireturn, 1) := by decide +kernel
theorem dX12_readDummy_0 : decode cX12_readDummy 0 = .ok (.aload_n 0, 1) := by decide +kernel
theorem dX12_readDummy_1 : decode cX12_readDummy 1 = .ok (.getfield 22, 3) := by decide +kernel
theorem dX12_readDummy_4 : decode cX12_readDummy 4 = .ok (.iconst 2, 1) := by decide +kernel
theorem dX12_readDummy_5 : decode cX12_readDummy 5 = .ok (.iaload, 1) := by decide +kernel
theorem dX12_readDummy_6 : decode cX12_readDummy 6 = .ok (.iconst 4, 1) := by decide +kernel
theorem dX12_readDummy_7 : decode cX12_readDummy 7 = .ok (.if_icmp .ne 8, 3) := by decide +kernel
theorem dX12_readDummy_10 : decode cX12_readDummy 10 = .ok (.aload_n 0, 1) := by decide +kernel
theorem dX12_readDummy_11 : decode cX12_readDummy 11 = .ok (.iconst 3, 1) := by decide +kernel
theorem dX12_readDummy_12 : decode cX12_readDummy 12 = .ok (.invokevirtual 111, 3) := by decide +kernel
theorem dX12_readDummy_15 : decode cX12_readDummy 15 = .ok (.aload_n 0, 1) := by decide +kernel
theorem dX12_readDummy_16 : decode cX12_readDummy 16 = .ok (.iconst 1, 1) := by decide +kernel
theorem dX12_readDummy_17 : decode cX12_readDummy 17 = .ok (.invokevirtual 118, 3) := by decide +kernel
theorem dX12_readDummy_20 : decode cX12_readDummy 20 = .ok (.aload_n 0, 1) := by decide +kernel
theorem dX12_readDummy_21 : decode cX12_readDummy 21 = .ok (.iconst 0, 1) := by decide +kernel
theorem dX12_readDummy_22 : decode cX12_readDummy 22 = .ok (.bipush 99, 2) := by decide +kernel
theorem dX12_readDummy_24 : decode cX12_readDummy 24 = .ok (.invokevirtual 125, 3) := by decide +kernel
theorem dX12_readDummy_27 : decode cX12_readDummy 27 = .ok (.istore_n 1, 1) := by decide +kernel
theorem dX12_readDummy_28 : decode cX12_readDummy 28 = .ok (.aload_n 0, 1) := by decide +kernel
theorem dX12_readDummy_29 : decode cX12_readDummy 29 = .ok (.bipush 44, 2) := by decide +kernel
theorem dX12_readDummy_31 : decode cX12_readDummy 31 = .ok (.invokevirtual 129, 3) := by decide +kernel
theorem dX12_readDummy_34 : decode cX12_readDummy 34 = .ok (.aload_n 0, 1) := by decide +kernel
theorem dX12_readDummy_35 : decode cX12_readDummy 35 = .ok (.iconst 0, 1) := by decide +kernel
theorem dX12_readDummy_36 : decode cX12_readDummy 36 = .ok (.bipush 99, 2) := by decide +kernel
theorem dX12_readDummy_38 : decode cX12_readDummy 38 = .ok (.invokevirtual 125, 3) := by decide +kernel
theorem dX12_readDummy_41 : decode cX12_readDummy 41 = .ok (.istore_n 2, 1) := by decide +kernel
theorem dX12_readDummy_42 : decode cX12_readDummy 42 = .ok (.aload_n 0, 1) := by decide +kernel
theorem dX12_readDummy_43 : decode cX12_readDummy 43 = .ok (.bipush 44, 2) := by decide +kernel
theorem dX12_readDummy_45 : decode cX12_readDummy 45 = .ok (.invokevirtual 129, 3) := by decide +kernel
theorem dX12_readDummy_48 : decode cX12_readDummy 48 = .ok (.aload_n 0, 1) := by decide +kernel
theorem dX12_readDummy_49 : decode cX12_readDummy 49 = .ok (.iconst 0, 1) := by decide +kernel
theorem dX12_readDummy_50 : decode cX12_readDummy 50 = .ok (.bipush 99, 2) := by decide +kernel
theorem dX12_readDummy_52 : decode cX12_readDummy 52 = .ok (.invokevirtual 125, 3) := by decide +kernel
theorem dX12_readDummy_55 : decode cX12_readDummy 55 = .ok (.istore_n 3, 1) := by decide +kernel
theorem dX12_readDummy_56 : decode cX12_readDummy 56 = .ok (.aload_n 0, 1) := by decide +kernel
theorem dX12_readDummy_57 : decode cX12_readDummy 57 = .ok (.bipush 59, 2) := by decide +kernel
theorem dX12_readDummy_59 : decode cX12_readDummy 59 = .ok (.invokevirtual 129, 3) := by decide +kernel
theorem dX12_readDummy_62 : decode cX12_readDummy 62 = .ok (.aload_n 0, 1) := by decide +kernel
theorem dX12_readDummy_63 : decode cX12_readDummy 63 = .ok (.getfield 84, 3) := by decide +kernel
theorem dX12_readDummy_66 : decode cX12_readDummy 66 = .ok (.ifCond .ne 112, 3) := by decide +kernel
theorem dX12_readDummy_69 : decode cX12_readDummy 69 = .ok (.iconst 0, 1) := by decide +kernel
theorem dX12_readDummy_70 : decode cX12_readDummy 70 = .ok (.istore 4, 2) := by decide +kernel
theorem dX12_readDummy_72 : decode cX12_readDummy 72 = .ok (.iload 4, 2) := by decide +kernel
theorem dX12_readDummy_74 : decode cX12_readDummy 74 = .ok (.iconst 3, 1) := by decide +kernel
theorem dX12_readDummy_75 : decode cX12_readDummy 75 = .ok (.if_icmp .ge 93, 3) := by decide +kernel
theorem dX12_readDummy_78 : decode cX12_readDummy 78 = .ok (.iload 4, 2) := by decide +kernel
theorem dX12_readDummy_80 : decode cX12_readDummy 80 = .ok (.ifCond .ne 7, 3) := by decide +kernel
theorem dX12_readDummy_83 : decode cX12_readDummy 83 = .ok (.iload_n 1, 1) := by decide +kernel
theorem dX12_readDummy_84 : decode cX12_readDummy 84 = .ok (.goto 14, 3) := by decide +kernel
theorem dX12_readDummy_87 : decode cX12_readDummy 87 = .ok (.iload 4, 2) := by decide +kernel
theorem dX12_readDummy_89 : decode cX12_readDummy 89 = .ok (.iconst 1, 1) := by decide +kernel
theorem dX12_readDummy_90 : decode cX12_readDummy 90 = .ok (.if_icmp .ne 7, 3) := by decide +kernel
theorem dX12_readDummy_93 : decode cX12_readDummy 93 = .ok (.iload_n 2, 1) := by decide +kernel
theorem dX12_readDummy_94 : decode cX12_readDummy 94 = .ok (.goto 4, 3) := by decide +kernel
theorem dX12_readDummy_97 : decode cX12_readDummy 97 = .ok (.iload_n 3, 1) := by decide +kernel
theorem dX12_readDummy_98 : decode cX12_readDummy 98 = .ok (.istore 5, 2) := by decide +kernel
theorem dX12_readDummy_100 : decode cX12_readDummy 100 = .ok (.aload_n 0, 1) := by decide +kernel
theorem dX12_readDummy_101 : decode cX12_readDummy 101 = .ok (.getfield 22, 3) := by decide +kernel
theorem dX12_readDummy_104 : decode cX12_readDummy 104 = .ok (.iconst 5, 1) := by decide +kernel
theorem dX12_readDummy_105 : decode cX12_readDummy 105 = .ok (.iconst 3, 1) := by decide +kernel
theorem dX12_readDummy_106 : decode cX12_readDummy 106 = .ok (.aload_n 0, 1) := by decide +kernel
theorem dX12_readDummy_107 : decode cX12_readDummy 107 = .ok (.getfield 22, 3) := by decide +kernel
theorem dX12_readDummy_110 : decode cX12_readDummy 110 = .ok (.iconst 2, 1) := by decide +kernel
theorem dX12_readDummy_111 : decode cX12_readDummy 111 = .ok (.iaload, 1) := by decide +kernel
theorem dX12_readDummy_112 : decode cX12_readDummy 112 = .ok (.imul, 1) := by decide +kernel
theorem dX12_readDummy_113 : decode cX12_readDummy 113 = .ok (.iadd, 1) := by decide +kernel
theorem dX12_readDummy_114 : decode cX12_readDummy 114 = .ok (.iload 4, 2) := by decide +kernel
theorem dX12_readDummy_116 : decode cX12_readDummy 116 = .ok (.iadd, 1) := by decide +kernel
theorem dX12_readDummy_117 : decode cX12_readDummy 117 = .ok (.iload 5, 2) := by decide +kernel
theorem dX12_readDummy_119 : decode cX12_readDummy 119 = .ok (.iastore, 1) := by decide +kernel
theorem dX12_readDummy_120 : decode cX12_readDummy 120 = .ok (.aload_n 0, 1) := by decide +kernel
theorem dX12_readDummy_121 : decode cX12_readDummy 121 = .ok (.getfield 22, 3) := by decide +kernel
theorem dX12_readDummy_124 : decode cX12_readDummy 124 = .ok (.bipush 17, 2) := by decide +kernel
theorem dX12_readDummy_126 : decode cX12_readDummy 126 = .ok (.iconst 3, 1) := by decide +kernel
theorem dX12_readDummy_127 : decode cX12_readDummy 127 = .ok (.aload_n 0, 1) := by decide +kernel
theorem dX12_readDummy_128 : decode cX12_readDummy 128 = .ok (.getfield 22, 3) := by decide +kernel
theorem dX12_readDummy_131 : decode cX12_readDummy 131 = .ok (.iconst 2, 1) := by decide +kernel
theorem dX12_readDummy_132 : decode cX12_readDummy 132 = .ok (.iaload, 1) := by decide +kernel
theorem dX12_readDummy_133 : decode cX12_readDummy 133 = .ok (.imul, 1) := by decide +kernel
theorem dX12_readDummy_134 : decode cX12_readDummy 134 = .ok (.iadd, 1) := by decide +kernel
theorem dX12_readDummy_135 : decode cX12_readDummy 135 = .ok (.iload 4, 2) := by decide +kernel
theorem dX12_readDummy_137 : decode cX12_readDummy 137 = .ok (.iadd, 1) := by decide +kernel
theorem dX12_readDummy_138 : decode cX12_readDummy 138 = .ok (.iload 5, 2) := by decide +kernel
theorem dX12_readDummy_140 : decode cX12_readDummy 140 = .ok (.iastore, 1) := by decide +kernel
theorem dX12_readDummy_141 : decode cX12_readDummy 141 = .ok (.aload_n 0, 1) := by decide +kernel
theorem dX12_readDummy_142 : decode cX12_readDummy 142 = .ok (.getfield 22, 3) := by decide +kernel
theorem dX12_readDummy_145 : decode cX12_readDummy 145 = .ok (.bipush 29, 2) := by decide +kernel
theorem dX12_readDummy_147 : decode cX12_readDummy 147 = .ok (.iconst 3, 1) := by decide +kernel
theorem dX12_readDummy_148 : decode cX12_readDummy 148 = .ok (.aload_n 0, 1) := by decide +kernel
theorem dX12_readDummy_149 : decode cX12_readDummy 149 = .ok (.getfield 22, 3) := by decide +kernel
theorem dX12_readDummy_152 : decode cX12_readDummy 152 = .ok (.iconst 2, 1) := by decide +kernel
theorem dX12_readDummy_153 : decode cX12_readDummy 153 = .ok (.iaload, 1) := by decide +kernel
theorem dX12_readDummy_154 : decode cX12_readDummy 154 = .ok (.imul, 1) := by decide +kernel
theorem dX12_readDummy_155 : decode cX12_readDummy 155 = .ok (.iadd, 1) := by decide +kernel
theorem dX12_readDummy_156 : decode cX12_readDummy 156 = .ok (.iload 4, 2) := by decide +kernel
theorem dX12_readDummy_158 : decode cX12_readDummy 158 = .ok (.iadd, 1) := by decide +kernel
theorem dX12_readDummy_159 : decode cX12_readDummy 159 = .ok (.iload 5, 2) := by decide +kernel
theorem dX12_readDummy_161 : decode cX12_readDummy 161 = .ok (.iastore, 1) := by decide +kernel
theorem dX12_readDummy_162 : decode cX12_readDummy 162 = .ok (.iinc 4 1, 3) := by decide +kernel
theorem dX12_readDummy_165 : decode cX12_readDummy 165 = .ok (.goto (-93), 3) := by decide +kernel
theorem dX12_readDummy_168 : decode cX12_readDummy 168 = .ok (.aload_n 0, 1) := by decide +kernel
theorem dX12_readDummy_169 : decode cX12_readDummy 169 = .ok (.getfield 22, 3) := by decide +kernel
theorem dX12_readDummy_172 : decode cX12_readDummy 172 = .ok (.iconst 2, 1) := by decide +kernel
theorem dX12_readDummy_173 : decode cX12_readDummy 173 = .ok (.dup2, 1) := by decide +kernel
theorem dX12_readDummy_174 : decode cX12_readDummy 174 = .ok (.iaload, 1) := by decide +kernel
theorem dX12_readDummy_175 : decode cX12_readDummy 175 = .ok (.iconst 1, 1) := by decide +kernel
theorem dX12_readDummy_176 : decode cX12_readDummy 176 = .ok (.iadd, 1) := by decide +kernel
theorem dX12_readDummy_177 : decode cX12_readDummy 177 = .ok (.iastore, 1) := by decide +kernel
theorem dX12_readDummy_178 : decode cX12_readDummy 178 = .ok (.return_, 1) := by decide +kernel
theorem dX12_readMouth_0 : decode cX12_readMouth 0 = .ok (.aload_n 0, 1) := by decide +kernel
theorem dX12_readMouth_1 : decode cX12_readMouth 1 = .ok (.getfield 97, 3) := by decide +kernel
theorem dX12_readMouth_4 : decode cX12_readMouth 4 = .ok (.invokestatic 132, 3) := by decide +kernel
theorem dX12_readMouth_7 : decode cX12_readMouth 7 = .ok (.istore_n 1, 1) := by decide +kernel
theorem dX12_readMouth_8 : decode cX12_readMouth 8 = .ok (.aload_n 0, 1) := by decide +kernel
theorem dX12_readMouth_9 : decode cX12_readMouth 9 = .ok (.getfield 22, 3) := by decide +kernel
theorem dX12_readMouth_12 : decode cX12_readMouth 12 = .ok (.iconst 3, 1) := by decide +kernel
theorem dX12_readMouth_13 : decode cX12_readMouth 13 = .ok (.iaload, 1) := by decide +kernel
theorem dX12_readMouth_14 : decode cX12_readMouth 14 = .ok (.iconst 5, 1) := by decide +kernel
theorem dX12_readMouth_15 : decode cX12_readMouth 15 = .ok (.if_icmp .ne 8, 3) := by decide +kernel
theorem dX12_readMouth_18 : decode cX12_readMouth 18 = .ok (.aload_n 0, 1) := by decide +kernel
theorem dX12_readMouth_19 : decode cX12_readMouth 19 = .ok (.iconst 3, 1) := by decide +kernel
theorem dX12_readMouth_20 : decode cX12_readMouth 20 = .ok (.invokevirtual 111, 3) := by decide +kernel
theorem dX12_readMouth_23 : decode cX12_readMouth 23 = .ok (.aload_n 0, 1) := by decide +kernel
theorem dX12_readMouth_24 : decode cX12_readMouth 24 = .ok (.iconst 1, 1) := by decide +kernel
theorem dX12_readMouth_25 : decode cX12_readMouth 25 = .ok (.invokevirtual 118, 3) := by decide +kernel
theorem dX12_readMouth_28 : decode cX12_readMouth 28 = .ok (.aload_n 0, 1) := by decide +kernel
theorem dX12_readMouth_29 : decode cX12_readMouth 29 = .ok (.iconst 0, 1) := by decide +kernel
theorem dX12_readMouth_30 : decode cX12_readMouth 30 = .ok (.bipush 99, 2) := by decide +kernel
theorem dX12_readMouth_32 : decode cX12_readMouth 32 = .ok (.invokevirtual 125, 3) := by decide +kernel
theorem dX12_readMouth_35 : decode cX12_readMouth 35 = .ok (.istore_n 2, 1) := by decide +kernel
theorem dX12_readMouth_36 : decode cX12_readMouth 36 = .ok (.aload_n 0, 1) := by decide +kernel
theorem dX12_readMouth_37 : decode cX12_readMouth 37 = .ok (.bipush 59, 2) := by decide +kernel
theorem dX12_readMouth_39 : decode cX12_readMouth 39 = .ok (.invokevirtual 129, 3) := by decide +kernel
theorem dX12_readMouth_42 : decode cX12_readMouth 42 = .ok (.aload_n 0, 1) := by decide +kernel
theorem dX12_readMouth_43 : decode cX12_readMouth 43 = .ok (.getfield 84, 3) := by decide +kernel
theorem dX12_readMouth_46 : decode cX12_readMouth 46 = .ok (.ifCond .ne 49, 3) := by decide +kernel
theorem dX12_readMouth_49 : decode cX12_readMouth 49 = .ok (.aload_n 0, 1) := by decide +kernel
theorem dX12_readMouth_50 : decode cX12_readMouth 50 = .ok (.getfield 22, 3) := by decide +kernel
theorem dX12_readMouth_53 : decode cX12_readMouth 53 = .ok (.bipush 41, 2) := by decide +kernel
theorem dX12_readMouth_55 : decode cX12_readMouth 55 = .ok (.iconst 2, 1) := by decide +kernel
theorem dX12_readMouth_56 : decode cX12_readMouth 56 = .ok (.aload_n 0, 1) := by decide +kernel
theorem dX12_readMouth_57 : decode cX12_readMouth 57 = .ok (.getfield 22, 3) := by decide +kernel
theorem dX12_readMouth_60 : decode cX12_readMouth 60 = .ok (.iconst 3, 1) := by decide +kernel
theorem dX12_readMouth_61 : decode cX12_readMouth 61 = .ok (.iaload, 1) := by decide +kernel
theorem dX12_readMouth_62 : decode cX12_readMouth 62 = .ok (.imul, 1) := by decide +kernel
theorem dX12_readMouth_63 : decode cX12_readMouth 63 = .ok (.iadd, 1) := by decide +kernel
theorem dX12_readMouth_64 : decode cX12_readMouth 64 = .ok (.iload_n 1, 1) := by decide +kernel
theorem dX12_readMouth_65 : decode cX12_readMouth 65 = .ok (.iastore, 1) := by decide +kernel
theorem dX12_readMouth_66 : decode cX12_readMouth 66 = .ok (.aload_n 0, 1) := by decide +kernel
theorem dX12_readMouth_67 : decode cX12_readMouth 67 = .ok (.getfield 22, 3) := by decide +kernel
theorem dX12_readMouth_70 : decode cX12_readMouth 70 = .ok (.bipush 41, 2) := by decide +kernel
theorem dX12_readMouth_72 : decode cX12_readMouth 72 = .ok (.iconst 2, 1) := by decide +kernel
theorem dX12_readMouth_73 : decode cX12_readMouth 73 = .ok (.aload_n 0, 1) := by decide +kernel
theorem dX12_readMouth_74 : decode cX12_readMouth 74 = .ok (.getfield 22, 3) := by decide +kernel
theorem dX12_readMouth_77 : decode cX12_readMouth 77 = .ok (.iconst 3, 1) := by decide +kernel
theorem dX12_readMouth_78 : decode cX12_readMouth 78 = .ok (.iaload, 1) := by decide +kernel
theorem dX12_readMouth_79 : decode cX12_readMouth 79 = .ok (.imul, 1) := by decide +kernel
theorem dX12_readMouth_80 : decode cX12_readMouth 80 = .ok (.iadd, 1) := by decide +kernel
theorem dX12_readMouth_81 : decode cX12_readMouth 81 = .ok (.iconst 1, 1) := by decide +kernel
theorem dX12_readMouth_82 : decode cX12_readMouth 82 = .ok (.iadd, 1) := by decide +kernel
theorem dX12_readMouth_83 : decode cX12_readMouth 83 = .ok (.iload_n 2, 1) := by decide +kernel
theorem dX12_readMouth_84 : decode cX12_readMouth 84 = .ok (.iastore, 1) := by decide +kernel
theorem dX12_readMouth_85 : decode cX12_readMouth 85 = .ok (.aload_n 0, 1) := by decide +kernel
theorem dX12_readMouth_86 : decode cX12_readMouth 86 = .ok (.getfield 22, 3) := by decide +kernel
theorem dX12_readMouth_89 : decode cX12_readMouth 89 = .ok (.iconst 3, 1) := by decide +kernel
theorem dX12_readMouth_90 : decode cX12_readMouth 90 = .ok (.dup2, 1) := by decide +kernel
theorem dX12_readMouth_91 : decode cX12_readMouth 91 = .ok (.iaload, 1) := by decide +kernel
theorem dX12_readMouth_92 : decode cX12_readMouth 92 = .ok (.iconst 1, 1) := by decide +kernel
theorem dX12_readMouth_93 : decode cX12_readMouth 93 = .ok (.iadd, 1) := by decide +kernel
theorem dX12_readMouth_94 : decode cX12_readMouth 94 = .ok (.iastore, 1) := by decide +kernel
theorem dX12_readMouth_95 : decode cX12_readMouth 95 = .ok (.return_, 1) := by decide +kernel
theorem dX12_street_0 : decode cX12_street 0 = .ok (.aload_n 0, 1) := by decide +kernel
theorem dX12_street_1 : decode cX12_street 1 = .ok (.iconst 0, 1) := by decide +kernel
theorem dX12_street_2 : decode cX12_street 2 = .ok (.putfield 53, 3) := by decide +kernel
theorem dX12_street_5 : decode cX12_street 5 = .ok (.aload_n 0, 1) := by decide +kernel
theorem dX12_street_6 : decode cX12_street 6 = .ok (.invokevirtual 135, 3) := by decide +kernel
theorem dX12_street_9 : decode cX12_street 9 = .ok (.iconst 0, 1) := by decide +kernel
theorem dX12_street_10 : decode cX12_street 10 = .ok (.istore_n 1, 1) := by decide +kernel
theorem dX12_street_11 : decode cX12_street 11 = .ok (.iload_n 1, 1) := by decide +kernel
theorem dX12_street_12 : decode cX12_street 12 = .ok (.sipush 147, 3) := by decide +kernel
theorem dX12_street_15 : decode cX12_street 15 = .ok (.if_icmp .ge 16, 3) := by decide +kernel
theorem dX12_street_18 : decode cX12_street 18 = .ok (.aload_n 0, 1) := by decide +kernel
theorem dX12_street_19 : decode cX12_street 19 = .ok (.getfield 22, 3) := by decide +kernel
theorem dX12_street_22 : decode cX12_street 22 = .ok (.iload_n 1, 1) := by decide +kernel
theorem dX12_street_23 : decode cX12_street 23 = .ok (.iconst 0, 1) := by decide +kernel
theorem dX12_street_24 : decode cX12_street 24 = .ok (.iastore, 1) := by decide +kernel
theorem dX12_street_25 : decode cX12_street 25 = .ok (.iinc 1 1, 3) := by decide +kernel
theorem dX12_street_28 : decode cX12_street 28 = .ok (.goto (-17), 3) := by decide +kernel
theorem dX12_street_31 : decode cX12_street 31 = .ok (.aload_n 0, 1) := by decide +kernel
theorem dX12_street_32 : decode cX12_street 32 = .ok (.getfield 22, 3) := by decide +kernel
theorem dX12_street_35 : decode cX12_street 35 = .ok (.iconst 0, 1) := by decide +kernel
theorem dX12_street_36 : decode cX12_street 36 = .ok (.iconst 1, 1) := by decide +kernel
theorem dX12_street_37 : decode cX12_street 37 = .ok (.iastore, 1) := by decide +kernel
theorem dX12_street_38 : decode cX12_street 38 = .ok (.aload_n 0, 1) := by decide +kernel
theorem dX12_street_39 : decode cX12_street 39 = .ok (.aload_n 0, 1) := by decide +kernel
theorem dX12_street_40 : decode cX12_street 40 = .ok (.bipush 119, 2) := by decide +kernel
theorem dX12_street_42 : decode cX12_street 42 = .ok (.invokevirtual 138, 3) := by decide +kernel
theorem dX12_street_45 : decode cX12_street 45 = .ok (.invokevirtual 118, 3) := by decide +kernel
theorem dX12_street_48 : decode cX12_street 48 = .ok (.aload_n 0, 1) := by decide +kernel
theorem dX12_street_49 : decode cX12_street 49 = .ok (.getfield 22, 3) := by decide +kernel
theorem dX12_street_52 : decode cX12_street 52 = .ok (.iconst 1, 1) := by decide +kernel
theorem dX12_street_53 : decode cX12_street 53 = .ok (.aload_n 0, 1) := by decide +kernel
theorem dX12_street_54 : decode cX12_street 54 = .ok (.iconst 2, 1) := by decide +kernel
theorem dX12_street_55 : decode cX12_street 55 = .ok (.bipush 20, 2) := by decide +kernel
theorem dX12_street_57 : decode cX12_street 57 = .ok (.invokevirtual 125, 3) := by decide +kernel
theorem dX12_street_60 : decode cX12_street 60 = .ok (.iastore, 1) := by decide +kernel
theorem dX12_street_61 : decode cX12_street 61 = .ok (.aload_n 0, 1) := by decide +kernel
theorem dX12_street_62 : decode cX12_street 62 = .ok (.bipush 59, 2) := by decide +kernel
theorem dX12_street_64 : decode cX12_street 64 = .ok (.invokevirtual 129, 3) := by decide +kernel
theorem dX12_street_67 : decode cX12_street 67 = .ok (.aload_n 0, 1) := by decide +kernel
theorem dX12_street_68 : decode cX12_street 68 = .ok (.bipush 100, 2) := by decide +kernel
theorem dX12_street_70 : decode cX12_street 70 = .ok (.invokevirtual 138, 3) := by decide +kernel
theorem dX12_street_73 : decode cX12_street 73 = .ok (.ifCond .eq 10, 3) := by decide +kernel
theorem dX12_street_76 : decode cX12_street 76 = .ok (.aload_n 0, 1) := by decide +kernel
theorem dX12_street_77 : decode cX12_street 77 = .ok (.invokevirtual 141, 3) := by decide +kernel
theorem dX12_street_80 : decode cX12_street 80 = .ok (.goto (-13), 3) := by decide +kernel
theorem dX12_street_83 : decode cX12_street 83 = .ok (.aload_n 0, 1) := by decide +kernel
theorem dX12_street_84 : decode cX12_street 84 = .ok (.getfield 84, 3) := by decide +kernel
theorem dX12_street_87 : decode cX12_street 87 = .ok (.ifCond .ne 30, 3) := by decide +kernel
theorem dX12_street_90 : decode cX12_street 90 = .ok (.aload_n 0, 1) := by decide +kernel
theorem dX12_street_91 : decode cX12_street 91 = .ok (.getfield 108, 3) := by decide +kernel
theorem dX12_street_94 : decode cX12_street 94 = .ok (.iconst 2, 1) := by decide +kernel
theorem dX12_street_95 : decode cX12_street 95 = .ok (.if_icmp .ne 22, 3) := by decide +kernel
theorem dX12_street_98 : decode cX12_street 98 = .ok (.aload_n 0, 1) := by decide +kernel
theorem dX12_street_99 : decode cX12_street 99 = .ok (.getfield 97, 3) := by decide +kernel
theorem dX12_street_102 : decode cX12_street 102 = .ok (.invokestatic 132, 3) := by decide +kernel
theorem dX12_street_105 : decode cX12_street 105 = .ok (.ldc 96, 2) := by decide +kernel
theorem dX12_street_107 : decode cX12_street 107 = .ok (.if_icmp .eq 10, 3) := by decide +kernel
theorem dX12_street_110 : decode cX12_street 110 = .ok (.aload_n 0, 1) := by decide +kernel
theorem dX12_street_111 : decode cX12_street 111 = .ok (.invokevirtual 144, 3) := by decide +kernel
theorem dX12_street_114 : decode cX12_street 114 = .ok (.goto (-31), 3) := by decide +kernel
theorem dX12_street_117 : decode cX12_street 117 = .ok (.aload_n 0, 1) := by decide +kernel
theorem dX12_street_118 : decode cX12_street 118 = .ok (.invokevirtual 147, 3) := by decide +kernel
theorem dX12_street_121 : decode cX12_street 121 = .ok (.ifCond .eq 11, 3) := by decide +kernel
theorem dX12_street_124 : decode cX12_street 124 = .ok (.ldc 151, 2) := by decide +kernel
theorem dX12_street_126 : decode cX12_street 126 = .ok (.aload_n 0, 1) := by decide +kernel
theorem dX12_street_127 : decode cX12_street 127 = .ok (.getfield 90, 3) := by decide +kernel
theorem dX12_street_130 : decode cX12_street 130 = .ok (.isub, 1) := by decide +kernel
theorem dX12_street_131 : decode cX12_street 131 = .ok (.ireturn, 1) := by decide +kernel
theorem dX12_street_132 : decode cX12_street 132 = .ok (.aload_n 0, 1) := by decide +kernel
theorem dX12_street_133 : decode cX12_street 133 = .ok (.iconst 0, 1) := by decide +kernel
theorem dX12_street_134 : decode cX12_street 134 = .ok (.putfield 152, 3) := by decide +kernel
theorem dX12_street_137 : decode cX12_street 137 = .ok (.iconst 0, 1) := by decide +kernel
theorem dX12_street_138 : decode cX12_street 138 = .ok (.istore_n 1, 1) := by decide +kernel
theorem dX12_street_139 : decode cX12_street 139 = .ok (.iload_n 1, 1) := by decide +kernel
theorem dX12_street_140 : decode cX12_street 140 = .ok (.sipush 147, 3) := by decide +kernel
theorem dX12_street_143 : decode cX12_street 143 = .ok (.if_icmp .ge 21, 3) := by decide +kernel
theorem dX12_street_146 : decode cX12_street 146 = .ok (.aload_n 0, 1) := by decide +kernel
theorem dX12_street_147 : decode cX12_street 147 = .ok (.getfield 19, 3) := by decide +kernel
theorem dX12_street_150 : decode cX12_street 150 = .ok (.iload_n 1, 1) := by decide +kernel
theorem dX12_street_151 : decode cX12_street 151 = .ok (.aload_n 0, 1) := by decide +kernel
theorem dX12_street_152 : decode cX12_street 152 = .ok (.getfield 22, 3) := by decide +kernel
theorem dX12_street_155 : decode cX12_street 155 = .ok (.iload_n 1, 1) := by decide +kernel
theorem dX12_street_156 : decode cX12_street 156 = .ok (.iaload, 1) := by decide +kernel
theorem dX12_street_157 : decode cX12_street 157 = .ok (.iastore, 1) := by decide +kernel
theorem dX12_street_158 : decode cX12_street 158 = .ok (.iinc 1 1, 3) := by decide +kernel
theorem dX12_street_161 : decode cX12_street 161 = .ok (.goto (-22), 3) := by decide +kernel
theorem dX12_street_164 : decode cX12_street 164 = .ok (.aload_n 0, 1) := by decide +kernel
theorem dX12_street_165 : decode cX12_street 165 = .ok (.getfield 19, 3) := by decide +kernel
theorem dX12_street_168 : decode cX12_street 168 = .ok (.iconst 2, 1) := by decide +kernel
theorem dX12_street_169 : decode cX12_street 169 = .ok (.iaload, 1) := by decide +kernel
theorem dX12_street_170 : decode cX12_street 170 = .ok (.ireturn, 1) := by decide +kernel
theorem dX12_isThere_0 : decode cX12_isThere 0 = .ok (.aload_n 0, 1) := by decide +kernel
theorem dX12_isThere_1 : decode cX12_isThere 1 = .ok (.getfield 19, 3) := by decide +kernel
theorem dX12_isThere_4 : decode cX12_isThere 4 = .ok (.iconst 0, 1) := by decide +kernel
theorem dX12_isThere_5 : decode cX12_isThere 5 = .ok (.iaload, 1) := by decide +kernel
theorem dX12_isThere_6 : decode cX12_isThere 6 = .ok (.iconst 1, 1) := by decide +kernel
theorem dX12_isThere_7 : decode cX12_isThere 7 = .ok (.if_icmp .ne 7, 3) := by decide +kernel
theorem dX12_isThere_10 : decode cX12_isThere 10 = .ok (.iconst 1, 1) := by decide +kernel
theorem dX12_isThere_11 : decode cX12_isThere 11 = .ok (.goto 4, 3) := by decide +kernel
theorem dX12_isThere_14 : decode cX12_isThere 14 = .ok (.iconst 0, 1) := by decide +kernel
theorem dX12_isThere_15 : decode cX12_isThere 15 = .ok (.ireturn, 1) := by decide +kernel
theorem dX12_isDummy_0 : decode cX12_isDummy 0 = .ok (.iload_n 1, 1) := by decide +kernel
theorem dX12_isDummy_1 : decode cX12_isDummy 1 = .ok (.i2l, 1) := by decide +kernel
theorem dX12_isDummy_2 : decode cX12_isDummy 2 = .ok (.lconst 0, 1) := by decide +kernel
theorem dX12_isDummy_3 : decode cX12_isDummy 3 = .ok (.aload_n 0, 1) := by decide +kernel
theorem dX12_isDummy_4 : decode cX12_isDummy 4 = .ok (.getfield 19, 3) := by decide +kernel
theorem dX12_isDummy_7 : decode cX12_isDummy 7 = .ok (.iconst 2, 1) := by decide +kernel
theorem dX12_isDummy_8 : decode cX12_isDummy 8 = .ok (.iaload, 1) := by decide +kernel
theorem dX12_isDummy_9 : decode cX12_isDummy 9 = .ok (.iconst 1, 1) := by decide +kernel
theorem dX12_isDummy_10 : decode cX12_isDummy 10 = .ok (.isub, 1) := by decide +kernel
theorem dX12_isDummy_11 : decode cX12_isDummy 11 = .ok (.i2l, 1) := by decide +kernel
theorem dX12_isDummy_12 : decode cX12_isDummy 12 = .ok (.invokestatic 63, 3) := by decide +kernel
theorem dX12_isDummy_15 : decode cX12_isDummy 15 = .ok (.ireturn, 1) := by decide +kernel
theorem dX12_isPlace_0 : decode cX12_isPlace 0 = .ok (.iload_n 0, 1) := by decide +kernel
theorem dX12_isPlace_1 : decode cX12_isPlace 1 = .ok (.i2l, 1) := by decide +kernel
theorem dX12_isPlace_2 : decode cX12_isPlace 2 = .ok (.lconst 0, 1) := by decide +kernel
theorem dX12_isPlace_3 : decode cX12_isPlace 3 = .ok (.ldc2_w 71, 3) := by decide +kernel
theorem dX12_isPlace_6 : decode cX12_isPlace 6 = .ok (.invokestatic 63, 3) := by decide +kernel
theorem dX12_isPlace_9 : decode cX12_isPlace 9 = .ok (.ireturn, 1) := by decide +kernel
theorem dX12_isMouth_0 : decode cX12_isMouth 0 = .ok (.iload_n 1, 1) := by decide +kernel
theorem dX12_isMouth_1 : decode cX12_isMouth 1 = .ok (.i2l, 1) := by decide +kernel
theorem dX12_isMouth_2 : decode cX12_isMouth 2 = .ok (.lconst 0, 1) := by decide +kernel
theorem dX12_isMouth_3 : decode cX12_isMouth 3 = .ok (.aload_n 0, 1) := by decide +kernel
theorem dX12_isMouth_4 : decode cX12_isMouth 4 = .ok (.getfield 19, 3) := by decide +kernel
theorem dX12_isMouth_7 : decode cX12_isMouth 7 = .ok (.iconst 3, 1) := by decide +kernel
theorem dX12_isMouth_8 : decode cX12_isMouth 8 = .ok (.iaload, 1) := by decide +kernel
theorem dX12_isMouth_9 : decode cX12_isMouth 9 = .ok (.iconst 1, 1) := by decide +kernel
theorem dX12_isMouth_10 : decode cX12_isMouth 10 = .ok (.isub, 1) := by decide +kernel
theorem dX12_isMouth_11 : decode cX12_isMouth 11 = .ok (.i2l, 1) := by decide +kernel
theorem dX12_isMouth_12 : decode cX12_isMouth 12 = .ok (.invokestatic 63, 3) := by decide +kernel
theorem dX12_isMouth_15 : decode cX12_isMouth 15 = .ok (.ireturn, 1) := by decide +kernel
theorem dX12_kindOf_0 : decode cX12_kindOf 0 = .ok (.aload_n 0, 1) := by decide +kernel
theorem dX12_kindOf_1 : decode cX12_kindOf 1 = .ok (.getfield 19, 3) := by decide +kernel
theorem dX12_kindOf_4 : decode cX12_kindOf 4 = .ok (.bipush 41, 2) := by decide +kernel
theorem dX12_kindOf_6 : decode cX12_kindOf 6 = .ok (.iconst 2, 1) := by decide +kernel
theorem dX12_kindOf_7 : decode cX12_kindOf 7 = .ok (.iload_n 1, 1) := by decide +kernel
theorem dX12_kindOf_8 : decode cX12_kindOf 8 = .ok (.imul, 1) := by decide +kernel
theorem dX12_kindOf_9 : decode cX12_kindOf 9 = .ok (.iadd, 1) := by decide +kernel
theorem dX12_kindOf_10 : decode cX12_kindOf 10 = .ok (.iaload, 1) := by decide +kernel
theorem dX12_kindOf_11 : decode cX12_kindOf 11 = .ok (.ireturn, 1) := by decide +kernel
theorem dX12_bribeOf_0 : decode cX12_bribeOf 0 = .ok (.aload_n 0, 1) := by decide +kernel
theorem dX12_bribeOf_1 : decode cX12_bribeOf 1 = .ok (.getfield 19, 3) := by decide +kernel
theorem dX12_bribeOf_4 : decode cX12_bribeOf 4 = .ok (.bipush 41, 2) := by decide +kernel
theorem dX12_bribeOf_6 : decode cX12_bribeOf 6 = .ok (.iconst 2, 1) := by decide +kernel
theorem dX12_bribeOf_7 : decode cX12_bribeOf 7 = .ok (.iload_n 1, 1) := by decide +kernel
theorem dX12_bribeOf_8 : decode cX12_bribeOf 8 = .ok (.imul, 1) := by decide +kernel
theorem dX12_bribeOf_9 : decode cX12_bribeOf 9 = .ok (.iadd, 1) := by decide +kernel
theorem dX12_bribeOf_10 : decode cX12_bribeOf 10 = .ok (.iconst 1, 1) := by decide +kernel
theorem dX12_bribeOf_11 : decode cX12_bribeOf 11 = .ok (.iadd, 1) := by decide +kernel
theorem dX12_bribeOf_12 : decode cX12_bribeOf 12 = .ok (.iaload, 1) := by decide +kernel
theorem dX12_bribeOf_13 : decode cX12_bribeOf 13 = .ok (.ireturn, 1) := by decide +kernel
theorem dX12_padsOf_0 : decode cX12_padsOf 0 = .ok (.aload_n 0, 1) := by decide +kernel
theorem dX12_padsOf_1 : decode cX12_padsOf 1 = .ok (.iload_n 1, 1) := by decide +kernel
theorem dX12_padsOf_2 : decode cX12_padsOf 2 = .ok (.invokevirtual 155, 3) := by decide +kernel
theorem dX12_padsOf_5 : decode cX12_padsOf 5 = .ok (.tableswitch 55 2 5 #[31, 43, 46, 50], 31) := by decide +kernel
theorem dX12_padsOf_36 : decode cX12_padsOf 36 = .ok (.iload_n 2, 1) := by decide +kernel
theorem dX12_padsOf_37 : decode cX12_padsOf 37 = .ok (.ifCond .le 9, 3) := by decide +kernel
theorem dX12_padsOf_40 : decode cX12_padsOf 40 = .ok (.iconst 2, 1) := by decide +kernel
theorem dX12_padsOf_41 : decode cX12_padsOf 41 = .ok (.iload_n 2, 1) := by decide +kernel
theorem dX12_padsOf_42 : decode cX12_padsOf 42 = .ok (.imul, 1) := by decide +kernel
theorem dX12_padsOf_43 : decode cX12_padsOf 43 = .ok (.goto 4, 3) := by decide +kernel
theorem dX12_padsOf_46 : decode cX12_padsOf 46 = .ok (.iload_n 2, 1) := by decide +kernel
theorem dX12_padsOf_47 : decode cX12_padsOf 47 = .ok (.ireturn, 1) := by decide +kernel
theorem dX12_padsOf_48 : decode cX12_padsOf 48 = .ok (.iload_n 2, 1) := by decide +kernel
theorem dX12_padsOf_49 : decode cX12_padsOf 49 = .ok (.ineg, 1) := by decide +kernel
theorem dX12_padsOf_50 : decode cX12_padsOf 50 = .ok (.ireturn, 1) := by decide +kernel
theorem dX12_padsOf_51 : decode cX12_padsOf 51 = .ok (.iload_n 2, 1) := by decide +kernel
theorem dX12_padsOf_52 : decode cX12_padsOf 52 = .ok (.iconst 2, 1) := by decide +kernel
theorem dX12_padsOf_53 : decode cX12_padsOf 53 = .ok (.idiv, 1) := by decide +kernel
theorem dX12_padsOf_54 : decode cX12_padsOf 54 = .ok (.ireturn, 1) := by decide +kernel
theorem dX12_padsOf_55 : decode cX12_padsOf 55 = .ok (.iload_n 2, 1) := by decide +kernel
theorem dX12_padsOf_56 : decode cX12_padsOf 56 = .ok (.iconst 2, 1) := by decide +kernel
theorem dX12_padsOf_57 : decode cX12_padsOf 57 = .ok (.idiv, 1) := by decide +kernel
theorem dX12_padsOf_58 : decode cX12_padsOf 58 = .ok (.ineg, 1) := by decide +kernel
theorem dX12_padsOf_59 : decode cX12_padsOf 59 = .ok (.ireturn, 1) := by decide +kernel
theorem dX12_padsOf_60 : decode cX12_padsOf 60 = .ok (.iload_n 2, 1) := by decide +kernel
theorem dX12_padsOf_61 : decode cX12_padsOf 61 = .ok (.ireturn, 1) := by decide +kernel
theorem dX12_keep_0 : decode cX12_keep 0 = .ok (.aload_n 0, 1) := by decide +kernel
theorem dX12_keep_1 : decode cX12_keep 1 = .ok (.getfield 152, 3) := by decide +kernel
theorem dX12_keep_4 : decode cX12_keep 4 = .ok (.bipush 24, 2) := by decide +kernel
theorem dX12_keep_6 : decode cX12_keep 6 = .ok (.if_icmp .ne 44, 3) := by decide +kernel
theorem dX12_keep_9 : decode cX12_keep 9 = .ok (.iconst 0, 1) := by decide +kernel
theorem dX12_keep_10 : decode cX12_keep 10 = .ok (.istore_n 1, 1) := by decide +kernel
theorem dX12_keep_11 : decode cX12_keep 11 = .ok (.iload_n 1, 1) := by decide +kernel
theorem dX12_keep_12 : decode cX12_keep 12 = .ok (.sipush 3381, 3) := by decide +kernel
theorem dX12_keep_15 : decode cX12_keep 15 = .ok (.if_icmp .ge 25, 3) := by decide +kernel
theorem dX12_keep_18 : decode cX12_keep 18 = .ok (.aload_n 0, 1) := by decide +kernel
theorem dX12_keep_19 : decode cX12_keep 19 = .ok (.getfield 25, 3) := by decide +kernel
theorem dX12_keep_22 : decode cX12_keep 22 = .ok (.iload_n 1, 1) := by decide +kernel
theorem dX12_keep_23 : decode cX12_keep 23 = .ok (.aload_n 0, 1) := by decide +kernel
theorem dX12_keep_24 : decode cX12_keep 24 = .ok (.getfield 25, 3) := by decide +kernel
theorem dX12_keep_27 : decode cX12_keep 27 = .ok (.iload_n 1, 1) := by decide +kernel
theorem dX12_keep_28 : decode cX12_keep 28 = .ok (.sipush 147, 3) := by decide +kernel
theorem dX12_keep_31 : decode cX12_keep 31 = .ok (.iadd, 1) := by decide +kernel
theorem dX12_keep_32 : decode cX12_keep 32 = .ok (.iaload, 1) := by decide +kernel
theorem dX12_keep_33 : decode cX12_keep 33 = .ok (.iastore, 1) := by decide +kernel
theorem dX12_keep_34 : decode cX12_keep 34 = .ok (.iinc 1 1, 3) := by decide +kernel
theorem dX12_keep_37 : decode cX12_keep 37 = .ok (.goto (-26), 3) := by decide +kernel
theorem dX12_keep_40 : decode cX12_keep 40 = .ok (.aload_n 0, 1) := by decide +kernel
theorem dX12_keep_41 : decode cX12_keep 41 = .ok (.dup, 1) := by decide +kernel
theorem dX12_keep_42 : decode cX12_keep 42 = .ok (.getfield 152, 3) := by decide +kernel
theorem dX12_keep_45 : decode cX12_keep 45 = .ok (.iconst 1, 1) := by decide +kernel
theorem dX12_keep_46 : decode cX12_keep 46 = .ok (.isub, 1) := by decide +kernel
theorem dX12_keep_47 : decode cX12_keep 47 = .ok (.putfield 152, 3) := by decide +kernel
theorem dX12_keep_50 : decode cX12_keep 50 = .ok (.iconst 0, 1) := by decide +kernel
theorem dX12_keep_51 : decode cX12_keep 51 = .ok (.istore_n 1, 1) := by decide +kernel
theorem dX12_keep_52 : decode cX12_keep 52 = .ok (.iload_n 1, 1) := by decide +kernel
theorem dX12_keep_53 : decode cX12_keep 53 = .ok (.sipush 147, 3) := by decide +kernel
theorem dX12_keep_56 : decode cX12_keep 56 = .ok (.if_icmp .ge 30, 3) := by decide +kernel
theorem dX12_keep_59 : decode cX12_keep 59 = .ok (.aload_n 0, 1) := by decide +kernel
theorem dX12_keep_60 : decode cX12_keep 60 = .ok (.getfield 25, 3) := by decide +kernel
theorem dX12_keep_63 : decode cX12_keep 63 = .ok (.sipush 147, 3) := by decide +kernel
theorem dX12_keep_66 : decode cX12_keep 66 = .ok (.aload_n 0, 1) := by decide +kernel
theorem dX12_keep_67 : decode cX12_keep 67 = .ok (.getfield 152, 3) := by decide +kernel
theorem dX12_keep_70 : decode cX12_keep 70 = .ok (.imul, 1) := by decide +kernel
theorem dX12_keep_71 : decode cX12_keep 71 = .ok (.iload_n 1, 1) := by decide +kernel
theorem dX12_keep_72 : decode cX12_keep 72 = .ok (.iadd, 1) := by decide +kernel
theorem dX12_keep_73 : decode cX12_keep 73 = .ok (.aload_n 0, 1) := by decide +kernel
theorem dX12_keep_74 : decode cX12_keep 74 = .ok (.getfield 19, 3) := by decide +kernel
theorem dX12_keep_77 : decode cX12_keep 77 = .ok (.iload_n 1, 1) := by decide +kernel
theorem dX12_keep_78 : decode cX12_keep 78 = .ok (.iaload, 1) := by decide +kernel
theorem dX12_keep_79 : decode cX12_keep 79 = .ok (.iastore, 1) := by decide +kernel
theorem dX12_keep_80 : decode cX12_keep 80 = .ok (.iinc 1 1, 3) := by decide +kernel
theorem dX12_keep_83 : decode cX12_keep 83 = .ok (.goto (-31), 3) := by decide +kernel
theorem dX12_keep_86 : decode cX12_keep 86 = .ok (.aload_n 0, 1) := by decide +kernel
theorem dX12_keep_87 : decode cX12_keep 87 = .ok (.dup, 1) := by decide +kernel
theorem dX12_keep_88 : decode cX12_keep 88 = .ok (.getfield 152, 3) := by decide +kernel
theorem dX12_keep_91 : decode cX12_keep 91 = .ok (.iconst 1, 1) := by decide +kernel
theorem dX12_keep_92 : decode cX12_keep 92 = .ok (.iadd, 1) := by decide +kernel
theorem dX12_keep_93 : decode cX12_keep 93 = .ok (.putfield 152, 3) := by decide +kernel
theorem dX12_keep_96 : decode cX12_keep 96 = .ok (.return_, 1) := by decide +kernel
theorem dX12_lineOf_0 : decode cX12_lineOf 0 = .ok (.aload_n 0, 1) := by decide +kernel
theorem dX12_lineOf_1 : decode cX12_lineOf 1 = .ok (.getfield 19, 3) := by decide +kernel
theorem dX12_lineOf_4 : decode cX12_lineOf 4 = .ok (.bipush 51, 2) := by decide +kernel
theorem dX12_lineOf_6 : decode cX12_lineOf 6 = .ok (.bipush 6, 2) := by decide +kernel
theorem dX12_lineOf_8 : decode cX12_lineOf 8 = .ok (.iload_n 1, 1) := by decide +kernel
theorem dX12_lineOf_9 : decode cX12_lineOf 9 = .ok (.imul, 1) := by decide +kernel
theorem dX12_lineOf_10 : decode cX12_lineOf 10 = .ok (.iadd, 1) := by decide +kernel
theorem dX12_lineOf_11 : decode cX12_lineOf 11 = .ok (.iload_n 2, 1) := by decide +kernel
theorem dX12_lineOf_12 : decode cX12_lineOf 12 = .ok (.iadd, 1) := by decide +kernel
theorem dX12_lineOf_13 : decode cX12_lineOf 13 = .ok (.iaload, 1) := by decide +kernel
theorem dX12_lineOf_14 : decode cX12_lineOf 14 = .ok (.ireturn, 1) := by decide +kernel
theorem dX12_logs_0 : decode cX12_logs 0 = .ok (.bipush 51, 2) := by decide +kernel
theorem dX12_logs_2 : decode cX12_logs 2 = .ok (.bipush 6, 2) := by decide +kernel
theorem dX12_logs_4 : decode cX12_logs 4 = .ok (.aload_n 0, 1) := by decide +kernel
theorem dX12_logs_5 : decode cX12_logs 5 = .ok (.getfield 19, 3) := by decide +kernel
theorem dX12_logs_8 : decode cX12_logs 8 = .ok (.iconst 4, 1) := by decide +kernel
theorem dX12_logs_9 : decode cX12_logs 9 = .ok (.iaload, 1) := by decide +kernel
theorem dX12_logs_10 : decode cX12_logs 10 = .ok (.imul, 1) := by decide +kernel
theorem dX12_logs_11 : decode cX12_logs 11 = .ok (.iadd, 1) := by decide +kernel
theorem dX12_logs_12 : decode cX12_logs 12 = .ok (.istore 7, 2) := by decide +kernel
theorem dX12_logs_14 : decode cX12_logs 14 = .ok (.aload_n 0, 1) := by decide +kernel
theorem dX12_logs_15 : decode cX12_logs 15 = .ok (.getfield 19, 3) := by decide +kernel
theorem dX12_logs_18 : decode cX12_logs 18 = .ok (.iload 7, 2) := by decide +kernel
theorem dX12_logs_20 : decode cX12_logs 20 = .ok (.iload_n 1, 1) := by decide +kernel
theorem dX12_logs_21 : decode cX12_logs 21 = .ok (.iastore, 1) := by decide +kernel
theorem dX12_logs_22 : decode cX12_logs 22 = .ok (.aload_n 0, 1) := by decide +kernel
theorem dX12_logs_23 : decode cX12_logs 23 = .ok (.getfield 19, 3) := by decide +kernel
theorem dX12_logs_26 : decode cX12_logs 26 = .ok (.iload 7, 2) := by decide +kernel
theorem dX12_logs_28 : decode cX12_logs 28 = .ok (.iconst 1, 1) := by decide +kernel
theorem dX12_logs_29 : decode cX12_logs 29 = .ok (.iadd, 1) := by decide +kernel
theorem dX12_logs_30 : decode cX12_logs 30 = .ok (.iload_n 2, 1) := by decide +kernel
theorem dX12_logs_31 : decode cX12_logs 31 = .ok (.iastore, 1) := by decide +kernel
theorem dX12_logs_32 : decode cX12_logs 32 = .ok (.aload_n 0, 1) := by decide +kernel
theorem dX12_logs_33 : decode cX12_logs 33 = .ok (.getfield 19, 3) := by decide +kernel
theorem dX12_logs_36 : decode cX12_logs 36 = .ok (.iload 7, 2) := by decide +kernel
theorem dX12_logs_38 : decode cX12_logs 38 = .ok (.iconst 2, 1) := by decide +kernel
theorem dX12_logs_39 : decode cX12_logs 39 = .ok (.iadd, 1) := by decide +kernel
theorem dX12_logs_40 : decode cX12_logs 40 = .ok (.iload_n 3, 1) := by decide +kernel
theorem dX12_logs_41 : decode cX12_logs 41 = .ok (.iastore, 1) := by decide +kernel
theorem dX12_logs_42 : decode cX12_logs 42 = .ok (.aload_n 0, 1) := by decide +kernel
theorem dX12_logs_43 : decode cX12_logs 43 = .ok (.getfield 19, 3) := by decide +kernel
theorem dX12_logs_46 : decode cX12_logs 46 = .ok (.iload 7, 2) := by decide +kernel
theorem dX12_logs_48 : decode cX12_logs 48 = .ok (.iconst 3, 1) := by decide +kernel
theorem dX12_logs_49 : decode cX12_logs 49 = .ok (.iadd, 1) := by decide +kernel
theorem dX12_logs_50 : decode cX12_logs 50 = .ok (.iload 4, 2) := by decide +kernel
theorem dX12_logs_52 : decode cX12_logs 52 = .ok (.iastore, 1) := by decide +kernel
theorem dX12_logs_53 : decode cX12_logs 53 = .ok (.aload_n 0, 1) := by decide +kernel
theorem dX12_logs_54 : decode cX12_logs 54 = .ok (.getfield 19, 3) := by decide +kernel
theorem dX12_logs_57 : decode cX12_logs 57 = .ok (.iload 7, 2) := by decide +kernel
theorem dX12_logs_59 : decode cX12_logs 59 = .ok (.iconst 4, 1) := by decide +kernel
theorem dX12_logs_60 : decode cX12_logs 60 = .ok (.iadd, 1) := by decide +kernel
theorem dX12_logs_61 : decode cX12_logs 61 = .ok (.iload 5, 2) := by decide +kernel
theorem dX12_logs_63 : decode cX12_logs 63 = .ok (.iastore, 1) := by decide +kernel
theorem dX12_logs_64 : decode cX12_logs 64 = .ok (.aload_n 0, 1) := by decide +kernel
theorem dX12_logs_65 : decode cX12_logs 65 = .ok (.getfield 19, 3) := by decide +kernel
theorem dX12_logs_68 : decode cX12_logs 68 = .ok (.iload 7, 2) := by decide +kernel
theorem dX12_logs_70 : decode cX12_logs 70 = .ok (.iconst 5, 1) := by decide +kernel
theorem dX12_logs_71 : decode cX12_logs 71 = .ok (.iadd, 1) := by decide +kernel
theorem dX12_logs_72 : decode cX12_logs 72 = .ok (.iload 6, 2) := by decide +kernel
theorem dX12_logs_74 : decode cX12_logs 74 = .ok (.iastore, 1) := by decide +kernel
theorem dX12_logs_75 : decode cX12_logs 75 = .ok (.aload_n 0, 1) := by decide +kernel
theorem dX12_logs_76 : decode cX12_logs 76 = .ok (.getfield 19, 3) := by decide +kernel
theorem dX12_logs_79 : decode cX12_logs 79 = .ok (.iconst 4, 1) := by decide +kernel
theorem dX12_logs_80 : decode cX12_logs 80 = .ok (.dup2, 1) := by decide +kernel
theorem dX12_logs_81 : decode cX12_logs 81 = .ok (.iaload, 1) := by decide +kernel
theorem dX12_logs_82 : decode cX12_logs 82 = .ok (.iconst 1, 1) := by decide +kernel
theorem dX12_logs_83 : decode cX12_logs 83 = .ok (.iadd, 1) := by decide +kernel
theorem dX12_logs_84 : decode cX12_logs 84 = .ok (.iastore, 1) := by decide +kernel
theorem dX12_logs_85 : decode cX12_logs 85 = .ok (.return_, 1) := by decide +kernel
theorem dX12_tell_0 : decode cX12_tell 0 = .ok (.aload_n 0, 1) := by decide +kernel
theorem dX12_tell_1 : decode cX12_tell 1 = .ok (.iconst 0, 1) := by decide +kernel
theorem dX12_tell_2 : decode cX12_tell 2 = .ok (.putfield 53, 3) := by decide +kernel
theorem dX12_tell_5 : decode cX12_tell 5 = .ok (.aload_n 0, 1) := by decide +kernel
theorem dX12_tell_6 : decode cX12_tell 6 = .ok (.iload_n 1, 1) := by decide +kernel
theorem dX12_tell_7 : decode cX12_tell 7 = .ok (.invokevirtual 158, 3) := by decide +kernel
theorem dX12_tell_10 : decode cX12_tell 10 = .ok (.ifCond .eq 33, 3) := by decide +kernel
theorem dX12_tell_13 : decode cX12_tell 13 = .ok (.aload_n 0, 1) := by decide +kernel
theorem dX12_tell_14 : decode cX12_tell 14 = .ok (.iload_n 2, 1) := by decide +kernel
theorem dX12_tell_15 : decode cX12_tell 15 = .ok (.invokevirtual 161, 3) := by decide +kernel
theorem dX12_tell_18 : decode cX12_tell 18 = .ok (.ifCond .eq 25, 3) := by decide +kernel
theorem dX12_tell_21 : decode cX12_tell 21 = .ok (.iload_n 3, 1) := by decide +kernel
theorem dX12_tell_22 : decode cX12_tell 22 = .ok (.invokestatic 164, 3) := by decide +kernel
theorem dX12_tell_25 : decode cX12_tell 25 = .ok (.ifCond .eq 18, 3) := by decide +kernel
theorem dX12_tell_28 : decode cX12_tell 28 = .ok (.iload 4, 2) := by decide +kernel
theorem dX12_tell_30 : decode cX12_tell 30 = .ok (.i2l, 1) := by decide +kernel
theorem dX12_tell_31 : decode cX12_tell 31 = .ok (.ldc2_w 167, 3) := by decide +kernel
theorem dX12_tell_34 : decode cX12_tell 34 = .ok (.ldc2_w 169, 3) := by decide +kernel
theorem dX12_tell_37 : decode cX12_tell 37 = .ok (.invokestatic 63, 3) := by decide +kernel
theorem dX12_tell_40 : decode cX12_tell 40 = .ok (.ifCond .ne 6, 3) := by decide +kernel
theorem dX12_tell_43 : decode cX12_tell 43 = .ok (.ldc 73, 2) := by decide +kernel
theorem dX12_tell_45 : decode cX12_tell 45 = .ok (.ireturn, 1) := by decide +kernel
theorem dX12_tell_46 : decode cX12_tell 46 = .ok (.aload_n 0, 1) := by decide +kernel
theorem dX12_tell_47 : decode cX12_tell 47 = .ok (.iload_n 1, 1) := by decide +kernel
theorem dX12_tell_48 : decode cX12_tell 48 = .ok (.iload 4, 2) := by decide +kernel
theorem dX12_tell_50 : decode cX12_tell 50 = .ok (.invokevirtual 171, 3) := by decide +kernel
theorem dX12_tell_53 : decode cX12_tell 53 = .ok (.istore 5, 2) := by decide +kernel
theorem dX12_tell_55 : decode cX12_tell 55 = .ok (.iconst 3, 1) := by decide +kernel
theorem dX12_tell_56 : decode cX12_tell 56 = .ok (.iload_n 2, 1) := by decide +kernel
theorem dX12_tell_57 : decode cX12_tell 57 = .ok (.imul, 1) := by decide +kernel
theorem dX12_tell_58 : decode cX12_tell 58 = .ok (.iload_n 3, 1) := by decide +kernel
theorem dX12_tell_59 : decode cX12_tell 59 = .ok (.iadd, 1) := by decide +kernel
theorem dX12_tell_60 : decode cX12_tell 60 = .ok (.istore 6, 2) := by decide +kernel
theorem dX12_tell_62 : decode cX12_tell 62 = .ok (.aload_n 0, 1) := by decide +kernel
theorem dX12_tell_63 : decode cX12_tell 63 = .ok (.getfield 19, 3) := by decide +kernel
theorem dX12_tell_66 : decode cX12_tell 66 = .ok (.iconst 4, 1) := by decide +kernel
theorem dX12_tell_67 : decode cX12_tell 67 = .ok (.iaload, 1) := by decide +kernel
theorem dX12_tell_68 : decode cX12_tell 68 = .ok (.bipush 16, 2) := by decide +kernel
theorem dX12_tell_70 : decode cX12_tell 70 = .ok (.if_icmp .eq 54, 3) := by decide +kernel
theorem dX12_tell_73 : decode cX12_tell 73 = .ok (.aload_n 0, 1) := by decide +kernel
theorem dX12_tell_74 : decode cX12_tell 74 = .ok (.getfield 19, 3) := by decide +kernel
theorem dX12_tell_77 : decode cX12_tell 77 = .ok (.iconst 5, 1) := by decide +kernel
theorem dX12_tell_78 : decode cX12_tell 78 = .ok (.iload 6, 2) := by decide +kernel
theorem dX12_tell_80 : decode cX12_tell 80 = .ok (.iadd, 1) := by decide +kernel
theorem dX12_tell_81 : decode cX12_tell 81 = .ok (.iaload, 1) := by decide +kernel
theorem dX12_tell_82 : decode cX12_tell 82 = .ok (.iload 5, 2) := by decide +kernel
theorem dX12_tell_84 : decode cX12_tell 84 = .ok (.iadd, 1) := by decide +kernel
theorem dX12_tell_85 : decode cX12_tell 85 = .ok (.i2l, 1) := by decide +kernel
theorem dX12_tell_86 : decode cX12_tell 86 = .ok (.ldc2_w 174, 3) := by decide +kernel
theorem dX12_tell_89 : decode cX12_tell 89 = .ok (.ldc2_w 176, 3) := by decide +kernel
theorem dX12_tell_92 : decode cX12_tell 92 = .ok (.invokestatic 63, 3) := by decide +kernel
theorem dX12_tell_95 : decode cX12_tell 95 = .ok (.ifCond .eq 29, 3) := by decide +kernel
theorem dX12_tell_98 : decode cX12_tell 98 = .ok (.aload_n 0, 1) := by decide +kernel
theorem dX12_tell_99 : decode cX12_tell 99 = .ok (.getfield 19, 3) := by decide +kernel
theorem dX12_tell_102 : decode cX12_tell 102 = .ok (.bipush 29, 2) := by decide +kernel
theorem dX12_tell_104 : decode cX12_tell 104 = .ok (.iload 6, 2) := by decide +kernel
theorem dX12_tell_106 : decode cX12_tell 106 = .ok (.iadd, 1) := by decide +kernel
theorem dX12_tell_107 : decode cX12_tell 107 = .ok (.iaload, 1) := by decide +kernel
theorem dX12_tell_108 : decode cX12_tell 108 = .ok (.iload 4, 2) := by decide +kernel
theorem dX12_tell_110 : decode cX12_tell 110 = .ok (.iadd, 1) := by decide +kernel
theorem dX12_tell_111 : decode cX12_tell 111 = .ok (.i2l, 1) := by decide +kernel
theorem dX12_tell_112 : decode cX12_tell 112 = .ok (.ldc2_w 174, 3) := by decide +kernel
theorem dX12_tell_115 : decode cX12_tell 115 = .ok (.ldc2_w 176, 3) := by decide +kernel
theorem dX12_tell_118 : decode cX12_tell 118 = .ok (.invokestatic 63, 3) := by decide +kernel
theorem dX12_tell_121 : decode cX12_tell 121 = .ok (.ifCond .ne 6, 3) := by decide +kernel
theorem dX12_tell_124 : decode cX12_tell 124 = .ok (.ldc 83, 2) := by decide +kernel
theorem dX12_tell_126 : decode cX12_tell 126 = .ok (.ireturn, 1) := by decide +kernel
theorem dX12_tell_127 : decode cX12_tell 127 = .ok (.aload_n 0, 1) := by decide +kernel
theorem dX12_tell_128 : decode cX12_tell 128 = .ok (.invokevirtual 178, 3) := by decide +kernel
theorem dX12_tell_131 : decode cX12_tell 131 = .ok (.aload_n 0, 1) := by decide +kernel
theorem dX12_tell_132 : decode cX12_tell 132 = .ok (.iconst 0, 1) := by decide +kernel
theorem dX12_tell_133 : decode cX12_tell 133 = .ok (.iload_n 1, 1) := by decide +kernel
theorem dX12_tell_134 : decode cX12_tell 134 = .ok (.iload_n 2, 1) := by decide +kernel
theorem dX12_tell_135 : decode cX12_tell 135 = .ok (.iload_n 3, 1) := by decide +kernel
theorem dX12_tell_136 : decode cX12_tell 136 = .ok (.iload 4, 2) := by decide +kernel
theorem dX12_tell_138 : decode cX12_tell 138 = .ok (.iload 5, 2) := by decide +kernel
theorem dX12_tell_140 : decode cX12_tell 140 = .ok (.invokevirtual 181, 3) := by decide +kernel
theorem dX12_tell_143 : decode cX12_tell 143 = .ok (.aload_n 0, 1) := by decide +kernel
theorem dX12_tell_144 : decode cX12_tell 144 = .ok (.getfield 19, 3) := by decide +kernel
theorem dX12_tell_147 : decode cX12_tell 147 = .ok (.iconst 5, 1) := by decide +kernel
theorem dX12_tell_148 : decode cX12_tell 148 = .ok (.iload 6, 2) := by decide +kernel
theorem dX12_tell_150 : decode cX12_tell 150 = .ok (.iadd, 1) := by decide +kernel
theorem dX12_tell_151 : decode cX12_tell 151 = .ok (.dup2, 1) := by decide +kernel
theorem dX12_tell_152 : decode cX12_tell 152 = .ok (.iaload, 1) := by decide +kernel
theorem dX12_tell_153 : decode cX12_tell 153 = .ok (.iload 5, 2) := by decide +kernel
theorem dX12_tell_155 : decode cX12_tell 155 = .ok (.iadd, 1) := by decide +kernel
theorem dX12_tell_156 : decode cX12_tell 156 = .ok (.iastore, 1) := by decide +kernel
theorem dX12_tell_157 : decode cX12_tell 157 = .ok (.aload_n 0, 1) := by decide +kernel
theorem dX12_tell_158 : decode cX12_tell 158 = .ok (.getfield 19, 3) := by decide +kernel
theorem dX12_tell_161 : decode cX12_tell 161 = .ok (.bipush 29, 2) := by decide +kernel
theorem dX12_tell_163 : decode cX12_tell 163 = .ok (.iload 6, 2) := by decide +kernel
theorem dX12_tell_165 : decode cX12_tell 165 = .ok (.iadd, 1) := by decide +kernel
theorem dX12_tell_166 : decode cX12_tell 166 = .ok (.dup2, 1) := by decide +kernel
theorem dX12_tell_167 : decode cX12_tell 167 = .ok (.iaload, 1) := by decide +kernel
theorem dX12_tell_168 : decode cX12_tell 168 = .ok (.iload 4, 2) := by decide +kernel
theorem dX12_tell_170 : decode cX12_tell 170 = .ok (.iadd, 1) := by decide +kernel
theorem dX12_tell_171 : decode cX12_tell 171 = .ok (.iastore, 1) := by decide +kernel
theorem dX12_tell_172 : decode cX12_tell 172 = .ok (.aload_n 0, 1) := by decide +kernel
theorem dX12_tell_173 : decode cX12_tell 173 = .ok (.getfield 19, 3) := by decide +kernel
theorem dX12_tell_176 : decode cX12_tell 176 = .ok (.iconst 5, 1) := by decide +kernel
theorem dX12_tell_177 : decode cX12_tell 177 = .ok (.iload 6, 2) := by decide +kernel
theorem dX12_tell_179 : decode cX12_tell 179 = .ok (.iadd, 1) := by decide +kernel
theorem dX12_tell_180 : decode cX12_tell 180 = .ok (.iaload, 1) := by decide +kernel
theorem dX12_tell_181 : decode cX12_tell 181 = .ok (.ireturn, 1) := by decide +kernel
theorem dX12_lessOf_0 : decode cX12_lessOf 0 = .ok (.iload_n 1, 1) := by decide +kernel
theorem dX12_lessOf_1 : decode cX12_lessOf 1 = .ok (.iload_n 2, 1) := by decide +kernel
theorem dX12_lessOf_2 : decode cX12_lessOf 2 = .ok (.if_icmp .le 16, 3) := by decide +kernel
theorem dX12_lessOf_5 : decode cX12_lessOf 5 = .ok (.iload_n 1, 1) := by decide +kernel
theorem dX12_lessOf_6 : decode cX12_lessOf 6 = .ok (.iload_n 2, 1) := by decide +kernel
theorem dX12_lessOf_7 : decode cX12_lessOf 7 = .ok (.isub, 1) := by decide +kernel
theorem dX12_lessOf_8 : decode cX12_lessOf 8 = .ok (.aload_n 0, 1) := by decide +kernel
theorem dX12_lessOf_9 : decode cX12_lessOf 9 = .ok (.getfield 19, 3) := by decide +kernel
theorem dX12_lessOf_12 : decode cX12_lessOf 12 = .ok (.iconst 1, 1) := by decide +kernel
theorem dX12_lessOf_13 : decode cX12_lessOf 13 = .ok (.iaload, 1) := by decide +kernel
theorem dX12_lessOf_14 : decode cX12_lessOf 14 = .ok (.idiv, 1) := by decide +kernel
theorem dX12_lessOf_15 : decode cX12_lessOf 15 = .ok (.goto 4, 3) := by decide +kernel
theorem dX12_lessOf_18 : decode cX12_lessOf 18 = .ok (.iconst 0, 1) := by decide +kernel
theorem dX12_lessOf_19 : decode cX12_lessOf 19 = .ok (.ireturn, 1) := by decide +kernel
theorem dX12_year_0 : decode cX12_year 0 = .ok (.aload_n 0, 1) := by decide +kernel
theorem dX12_year_1 : decode cX12_year 1 = .ok (.iconst 0, 1) := by decide +kernel
theorem dX12_year_2 : decode cX12_year 2 = .ok (.putfield 53, 3) := by decide +kernel
theorem dX12_year_5 : decode cX12_year 5 = .ok (.aload_n 0, 1) := by decide +kernel
theorem dX12_year_6 : decode cX12_year 6 = .ok (.invokevirtual 185, 3) := by decide +kernel
theorem dX12_year_9 : decode cX12_year 9 = .ok (.ifCond .ne 6, 3) := by decide +kernel
theorem dX12_year_12 : decode cX12_year 12 = .ok (.ldc 188, 2) := by decide +kernel
theorem dX12_year_14 : decode cX12_year 14 = .ok (.ireturn, 1) := by decide +kernel
theorem dX12_year_15 : decode cX12_year 15 = .ok (.aload_n 0, 1) := by decide +kernel
theorem dX12_year_16 : decode cX12_year 16 = .ok (.getfield 19, 3) := by decide +kernel
theorem dX12_year_19 : decode cX12_year 19 = .ok (.iconst 4, 1) := by decide +kernel
theorem dX12_year_20 : decode cX12_year 20 = .ok (.iaload, 1) := by decide +kernel
theorem dX12_year_21 : decode cX12_year 21 = .ok (.bipush 16, 2) := by decide +kernel
theorem dX12_year_23 : decode cX12_year 23 = .ok (.if_icmp .ne 6, 3) := by decide +kernel
theorem dX12_year_26 : decode cX12_year 26 = .ok (.ldc 83, 2) := by decide +kernel
theorem dX12_year_28 : decode cX12_year 28 = .ok (.ireturn, 1) := by decide +kernel
theorem dX12_year_29 : decode cX12_year 29 = .ok (.aload_n 0, 1) := by decide +kernel
theorem dX12_year_30 : decode cX12_year 30 = .ok (.invokevirtual 178, 3) := by decide +kernel
theorem dX12_year_33 : decode cX12_year 33 = .ok (.aload_n 0, 1) := by decide +kernel
theorem dX12_year_34 : decode cX12_year 34 = .ok (.iconst 1, 1) := by decide +kernel
theorem dX12_year_35 : decode cX12_year 35 = .ok (.ldc 96, 2) := by decide +kernel
theorem dX12_year_37 : decode cX12_year 37 = .ok (.ldc 96, 2) := by decide +kernel
theorem dX12_year_39 : decode cX12_year 39 = .ok (.ldc 96, 2) := by decide +kernel
theorem dX12_year_41 : decode cX12_year 41 = .ok (.iconst 0, 1) := by decide +kernel
theorem dX12_year_42 : decode cX12_year 42 = .ok (.iconst 0, 1) := by decide +kernel
theorem dX12_year_43 : decode cX12_year 43 = .ok (.invokevirtual 181, 3) := by decide +kernel
theorem dX12_year_46 : decode cX12_year 46 = .ok (.iconst 0, 1) := by decide +kernel
theorem dX12_year_47 : decode cX12_year 47 = .ok (.istore_n 1, 1) := by decide +kernel
theorem dX12_year_48 : decode cX12_year 48 = .ok (.iconst 0, 1) := by decide +kernel
theorem dX12_year_49 : decode cX12_year 49 = .ok (.istore_n 2, 1) := by decide +kernel
theorem dX12_year_50 : decode cX12_year 50 = .ok (.iload_n 2, 1) := by decide +kernel
theorem dX12_year_51 : decode cX12_year 51 = .ok (.iconst 3, 1) := by decide +kernel
theorem dX12_year_52 : decode cX12_year 52 = .ok (.aload_n 0, 1) := by decide +kernel
theorem dX12_year_53 : decode cX12_year 53 = .ok (.getfield 19, 3) := by decide +kernel
theorem dX12_year_56 : decode cX12_year 56 = .ok (.iconst 2, 1) := by decide +kernel
theorem dX12_year_57 : decode cX12_year 57 = .ok (.iaload, 1) := by decide +kernel
theorem dX12_year_58 : decode cX12_year 58 = .ok (.imul, 1) := by decide +kernel
theorem dX12_year_59 : decode cX12_year 59 = .ok (.if_icmp .ge 47, 3) := by decide +kernel
theorem dX12_year_62 : decode cX12_year 62 = .ok (.aload_n 0, 1) := by decide +kernel
theorem dX12_year_63 : decode cX12_year 63 = .ok (.aload_n 0, 1) := by decide +kernel
theorem dX12_year_64 : decode cX12_year 64 = .ok (.getfield 19, 3) := by decide +kernel
theorem dX12_year_67 : decode cX12_year 67 = .ok (.iconst 5, 1) := by decide +kernel
theorem dX12_year_68 : decode cX12_year 68 = .ok (.iload_n 2, 1) := by decide +kernel
theorem dX12_year_69 : decode cX12_year 69 = .ok (.iadd, 1) := by decide +kernel
theorem dX12_year_70 : decode cX12_year 70 = .ok (.iaload, 1) := by decide +kernel
theorem dX12_year_71 : decode cX12_year 71 = .ok (.aload_n 0, 1) := by decide +kernel
theorem dX12_year_72 : decode cX12_year 72 = .ok (.getfield 19, 3) := by decide +kernel
theorem dX12_year_75 : decode cX12_year 75 = .ok (.bipush 17, 2) := by decide +kernel
theorem dX12_year_77 : decode cX12_year 77 = .ok (.iload_n 2, 1) := by decide +kernel
theorem dX12_year_78 : decode cX12_year 78 = .ok (.iadd, 1) := by decide +kernel
theorem dX12_year_79 : decode cX12_year 79 = .ok (.iaload, 1) := by decide +kernel
theorem dX12_year_80 : decode cX12_year 80 = .ok (.invokevirtual 189, 3) := by decide +kernel
theorem dX12_year_83 : decode cX12_year 83 = .ok (.istore_n 3, 1) := by decide +kernel
theorem dX12_year_84 : decode cX12_year 84 = .ok (.aload_n 0, 1) := by decide +kernel
theorem dX12_year_85 : decode cX12_year 85 = .ok (.getfield 19, 3) := by decide +kernel
theorem dX12_year_88 : decode cX12_year 88 = .ok (.iconst 5, 1) := by decide +kernel
theorem dX12_year_89 : decode cX12_year 89 = .ok (.iload_n 2, 1) := by decide +kernel
theorem dX12_year_90 : decode cX12_year 90 = .ok (.iadd, 1) := by decide +kernel
theorem dX12_year_91 : decode cX12_year 91 = .ok (.dup2, 1) := by decide +kernel
theorem dX12_year_92 : decode cX12_year 92 = .ok (.iaload, 1) := by decide +kernel
theorem dX12_year_93 : decode cX12_year 93 = .ok (.iload_n 3, 1) := by decide +kernel
theorem dX12_year_94 : decode cX12_year 94 = .ok (.isub, 1) := by decide +kernel
theorem dX12_year_95 : decode cX12_year 95 = .ok (.iastore, 1) := by decide +kernel
theorem dX12_year_96 : decode cX12_year 96 = .ok (.iload_n 1, 1) := by decide +kernel
theorem dX12_year_97 : decode cX12_year 97 = .ok (.iload_n 3, 1) := by decide +kernel
theorem dX12_year_98 : decode cX12_year 98 = .ok (.iadd, 1) := by decide +kernel
theorem dX12_year_99 : decode cX12_year 99 = .ok (.istore_n 1, 1) := by decide +kernel
theorem dX12_year_100 : decode cX12_year 100 = .ok (.iinc 2 1, 3) := by decide +kernel
theorem dX12_year_103 : decode cX12_year 103 = .ok (.goto (-53), 3) := by decide +kernel
theorem dX12_year_106 : decode cX12_year 106 = .ok (.iload_n 1, 1) := by decide +kernel
theorem dX12_year_107 : decode cX12_year 107 = .ok (.ireturn, 1) := by decide +kernel
theorem dX12_swap_0 : decode cX12_swap 0 = .ok (.aload_n 0, 1) := by decide +kernel
theorem dX12_swap_1 : decode cX12_swap 1 = .ok (.iconst 0, 1) := by decide +kernel
theorem dX12_swap_2 : decode cX12_swap 2 = .ok (.putfield 53, 3) := by decide +kernel
theorem dX12_swap_5 : decode cX12_swap 5 = .ok (.aload_n 0, 1) := by decide +kernel
theorem dX12_swap_6 : decode cX12_swap 6 = .ok (.iload_n 1, 1) := by decide +kernel
theorem dX12_swap_7 : decode cX12_swap 7 = .ok (.invokevirtual 161, 3) := by decide +kernel
theorem dX12_swap_10 : decode cX12_swap 10 = .ok (.ifCond .eq 16, 3) := by decide +kernel
theorem dX12_swap_13 : decode cX12_swap 13 = .ok (.aload_n 0, 1) := by decide +kernel
theorem dX12_swap_14 : decode cX12_swap 14 = .ok (.iload_n 2, 1) := by decide +kernel
theorem dX12_swap_15 : decode cX12_swap 15 = .ok (.invokevirtual 161, 3) := by decide +kernel
theorem dX12_swap_18 : decode cX12_swap 18 = .ok (.ifCond .eq 8, 3) := by decide +kernel
theorem dX12_swap_21 : decode cX12_swap 21 = .ok (.iload_n 1, 1) := by decide +kernel
theorem dX12_swap_22 : decode cX12_swap 22 = .ok (.iload_n 2, 1) := by decide +kernel
theorem dX12_swap_23 : decode cX12_swap 23 = .ok (.if_icmp .ne 6, 3) := by decide +kernel
theorem dX12_swap_26 : decode cX12_swap 26 = .ok (.ldc 73, 2) := by decide +kernel
theorem dX12_swap_28 : decode cX12_swap 28 = .ok (.ireturn, 1) := by decide +kernel
theorem dX12_swap_29 : decode cX12_swap 29 = .ok (.aload_n 0, 1) := by decide +kernel
theorem dX12_swap_30 : decode cX12_swap 30 = .ok (.getfield 19, 3) := by decide +kernel
theorem dX12_swap_33 : decode cX12_swap 33 = .ok (.iconst 4, 1) := by decide +kernel
theorem dX12_swap_34 : decode cX12_swap 34 = .ok (.iaload, 1) := by decide +kernel
theorem dX12_swap_35 : decode cX12_swap 35 = .ok (.bipush 16, 2) := by decide +kernel
theorem dX12_swap_37 : decode cX12_swap 37 = .ok (.if_icmp .ne 6, 3) := by decide +kernel
theorem dX12_swap_40 : decode cX12_swap 40 = .ok (.ldc 83, 2) := by decide +kernel
theorem dX12_swap_42 : decode cX12_swap 42 = .ok (.ireturn, 1) := by decide +kernel
theorem dX12_swap_43 : decode cX12_swap 43 = .ok (.aload_n 0, 1) := by decide +kernel
theorem dX12_swap_44 : decode cX12_swap 44 = .ok (.invokevirtual 178, 3) := by decide +kernel
theorem dX12_swap_47 : decode cX12_swap 47 = .ok (.aload_n 0, 1) := by decide +kernel
theorem dX12_swap_48 : decode cX12_swap 48 = .ok (.iconst 2, 1) := by decide +kernel
theorem dX12_swap_49 : decode cX12_swap 49 = .ok (.iload_n 1, 1) := by decide +kernel
theorem dX12_swap_50 : decode cX12_swap 50 = .ok (.iload_n 2, 1) := by decide +kernel
theorem dX12_swap_51 : decode cX12_swap 51 = .ok (.if_icmp .ge 7, 3) := by decide +kernel
theorem dX12_swap_54 : decode cX12_swap 54 = .ok (.iload_n 1, 1) := by decide +kernel
theorem dX12_swap_55 : decode cX12_swap 55 = .ok (.goto 4, 3) := by decide +kernel
theorem dX12_swap_58 : decode cX12_swap 58 = .ok (.iload_n 2, 1) := by decide +kernel
theorem dX12_swap_59 : decode cX12_swap 59 = .ok (.iload_n 1, 1) := by decide +kernel
theorem dX12_swap_60 : decode cX12_swap 60 = .ok (.iload_n 2, 1) := by decide +kernel
theorem dX12_swap_61 : decode cX12_swap 61 = .ok (.if_icmp .ge 7, 3) := by decide +kernel
theorem dX12_swap_64 : decode cX12_swap 64 = .ok (.iload_n 2, 1) := by decide +kernel
theorem dX12_swap_65 : decode cX12_swap 65 = .ok (.goto 4, 3) := by decide +kernel
theorem dX12_swap_68 : decode cX12_swap 68 = .ok (.iload_n 1, 1) := by decide +kernel
theorem dX12_swap_69 : decode cX12_swap 69 = .ok (.ldc 96, 2) := by decide +kernel
theorem dX12_swap_71 : decode cX12_swap 71 = .ok (.iconst 0, 1) := by decide +kernel
theorem dX12_swap_72 : decode cX12_swap 72 = .ok (.iconst 0, 1) := by decide +kernel
theorem dX12_swap_73 : decode cX12_swap 73 = .ok (.invokevirtual 181, 3) := by decide +kernel
theorem dX12_swap_76 : decode cX12_swap 76 = .ok (.iconst 0, 1) := by decide +kernel
theorem dX12_swap_77 : decode cX12_swap 77 = .ok (.istore_n 3, 1) := by decide +kernel
theorem dX12_swap_78 : decode cX12_swap 78 = .ok (.iload_n 3, 1) := by decide +kernel
theorem dX12_swap_79 : decode cX12_swap 79 = .ok (.iconst 3, 1) := by decide +kernel
theorem dX12_swap_80 : decode cX12_swap 80 = .ok (.if_icmp .ge 61, 3) := by decide +kernel
theorem dX12_swap_83 : decode cX12_swap 83 = .ok (.aload_n 0, 1) := by decide +kernel
theorem dX12_swap_84 : decode cX12_swap 84 = .ok (.getfield 19, 3) := by decide +kernel
theorem dX12_swap_87 : decode cX12_swap 87 = .ok (.iconst 5, 1) := by decide +kernel
theorem dX12_swap_88 : decode cX12_swap 88 = .ok (.iconst 3, 1) := by decide +kernel
theorem dX12_swap_89 : decode cX12_swap 89 = .ok (.iload_n 1, 1) := by decide +kernel
theorem dX12_swap_90 : decode cX12_swap 90 = .ok (.imul, 1) := by decide +kernel
theorem dX12_swap_91 : decode cX12_swap 91 = .ok (.iadd, 1) := by decide +kernel
theorem dX12_swap_92 : decode cX12_swap 92 = .ok (.iload_n 3, 1) := by decide +kernel
theorem dX12_swap_93 : decode cX12_swap 93 = .ok (.iadd, 1) := by decide +kernel
theorem dX12_swap_94 : decode cX12_swap 94 = .ok (.iaload, 1) := by decide +kernel
theorem dX12_swap_95 : decode cX12_swap 95 = .ok (.istore 4, 2) := by decide +kernel
theorem dX12_swap_97 : decode cX12_swap 97 = .ok (.aload_n 0, 1) := by decide +kernel
theorem dX12_swap_98 : decode cX12_swap 98 = .ok (.getfield 19, 3) := by decide +kernel
theorem dX12_swap_101 : decode cX12_swap 101 = .ok (.iconst 5, 1) := by decide +kernel
theorem dX12_swap_102 : decode cX12_swap 102 = .ok (.iconst 3, 1) := by decide +kernel
theorem dX12_swap_103 : decode cX12_swap 103 = .ok (.iload_n 1, 1) := by decide +kernel
theorem dX12_swap_104 : decode cX12_swap 104 = .ok (.imul, 1) := by decide +kernel
theorem dX12_swap_105 : decode cX12_swap 105 = .ok (.iadd, 1) := by decide +kernel
theorem dX12_swap_106 : decode cX12_swap 106 = .ok (.iload_n 3, 1) := by decide +kernel
theorem dX12_swap_107 : decode cX12_swap 107 = .ok (.iadd, 1) := by decide +kernel
theorem dX12_swap_108 : decode cX12_swap 108 = .ok (.aload_n 0, 1) := by decide +kernel
theorem dX12_swap_109 : decode cX12_swap 109 = .ok (.getfield 19, 3) := by decide +kernel
theorem dX12_swap_112 : decode cX12_swap 112 = .ok (.iconst 5, 1) := by decide +kernel
theorem dX12_swap_113 : decode cX12_swap 113 = .ok (.iconst 3, 1) := by decide +kernel
theorem dX12_swap_114 : decode cX12_swap 114 = .ok (.iload_n 2, 1) := by decide +kernel
theorem dX12_swap_115 : decode cX12_swap 115 = .ok (.imul, 1) := by decide +kernel
theorem dX12_swap_116 : decode cX12_swap 116 = .ok (.iadd, 1) := by decide +kernel
theorem dX12_swap_117 : decode cX12_swap 117 = .ok (.iload_n 3, 1) := by decide +kernel
theorem dX12_swap_118 : decode cX12_swap 118 = .ok (.iadd, 1) := by decide +kernel
theorem dX12_swap_119 : decode cX12_swap 119 = .ok (.iaload, 1) := by decide +kernel
theorem dX12_swap_120 : decode cX12_swap 120 = .ok (.iastore, 1) := by decide +kernel
theorem dX12_swap_121 : decode cX12_swap 121 = .ok (.aload_n 0, 1) := by decide +kernel
theorem dX12_swap_122 : decode cX12_swap 122 = .ok (.getfield 19, 3) := by decide +kernel
theorem dX12_swap_125 : decode cX12_swap 125 = .ok (.iconst 5, 1) := by decide +kernel
theorem dX12_swap_126 : decode cX12_swap 126 = .ok (.iconst 3, 1) := by decide +kernel
theorem dX12_swap_127 : decode cX12_swap 127 = .ok (.iload_n 2, 1) := by decide +kernel
theorem dX12_swap_128 : decode cX12_swap 128 = .ok (.imul, 1) := by decide +kernel
theorem dX12_swap_129 : decode cX12_swap 129 = .ok (.iadd, 1) := by decide +kernel
theorem dX12_swap_130 : decode cX12_swap 130 = .ok (.iload_n 3, 1) := by decide +kernel
theorem dX12_swap_131 : decode cX12_swap 131 = .ok (.iadd, 1) := by decide +kernel
theorem dX12_swap_132 : decode cX12_swap 132 = .ok (.iload 4, 2) := by decide +kernel
theorem dX12_swap_134 : decode cX12_swap 134 = .ok (.iastore, 1) := by decide +kernel
theorem dX12_swap_135 : decode cX12_swap 135 = .ok (.iinc 3 1, 3) := by decide +kernel
theorem dX12_swap_138 : decode cX12_swap 138 = .ok (.goto (-60), 3) := by decide +kernel
theorem dX12_swap_141 : decode cX12_swap 141 = .ok (.aload_n 0, 1) := by decide +kernel
theorem dX12_swap_142 : decode cX12_swap 142 = .ok (.getfield 19, 3) := by decide +kernel
theorem dX12_swap_145 : decode cX12_swap 145 = .ok (.iconst 4, 1) := by decide +kernel
theorem dX12_swap_146 : decode cX12_swap 146 = .ok (.iaload, 1) := by decide +kernel
theorem dX12_swap_147 : decode cX12_swap 147 = .ok (.ireturn, 1) := by decide +kernel
theorem dX12_close_0 : decode cX12_close 0 = .ok (.aload_n 0, 1) := by decide +kernel
theorem dX12_close_1 : decode cX12_close 1 = .ok (.iconst 0, 1) := by decide +kernel
theorem dX12_close_2 : decode cX12_close 2 = .ok (.putfield 53, 3) := by decide +kernel
theorem dX12_close_5 : decode cX12_close 5 = .ok (.aload_n 0, 1) := by decide +kernel
theorem dX12_close_6 : decode cX12_close 6 = .ok (.invokevirtual 185, 3) := by decide +kernel
theorem dX12_close_9 : decode cX12_close 9 = .ok (.ifCond .ne 6, 3) := by decide +kernel
theorem dX12_close_12 : decode cX12_close 12 = .ok (.ldc 188, 2) := by decide +kernel
theorem dX12_close_14 : decode cX12_close 14 = .ok (.ireturn, 1) := by decide +kernel
theorem dX12_close_15 : decode cX12_close 15 = .ok (.aload_n 0, 1) := by decide +kernel
theorem dX12_close_16 : decode cX12_close 16 = .ok (.invokevirtual 178, 3) := by decide +kernel
theorem dX12_close_19 : decode cX12_close 19 = .ok (.aload_n 0, 1) := by decide +kernel
theorem dX12_close_20 : decode cX12_close 20 = .ok (.getfield 19, 3) := by decide +kernel
theorem dX12_close_23 : decode cX12_close 23 = .ok (.iconst 4, 1) := by decide +kernel
theorem dX12_close_24 : decode cX12_close 24 = .ok (.iaload, 1) := by decide +kernel
theorem dX12_close_25 : decode cX12_close 25 = .ok (.istore_n 1, 1) := by decide +kernel
theorem dX12_close_26 : decode cX12_close 26 = .ok (.aload_n 0, 1) := by decide +kernel
theorem dX12_close_27 : decode cX12_close 27 = .ok (.getfield 19, 3) := by decide +kernel
theorem dX12_close_30 : decode cX12_close 30 = .ok (.iconst 4, 1) := by decide +kernel
theorem dX12_close_31 : decode cX12_close 31 = .ok (.iconst 0, 1) := by decide +kernel
theorem dX12_close_32 : decode cX12_close 32 = .ok (.iastore, 1) := by decide +kernel
theorem dX12_close_33 : decode cX12_close 33 = .ok (.iconst 0, 1) := by decide +kernel
theorem dX12_close_34 : decode cX12_close 34 = .ok (.istore_n 2, 1) := by decide +kernel
theorem dX12_close_35 : decode cX12_close 35 = .ok (.iload_n 2, 1) := by decide +kernel
theorem dX12_close_36 : decode cX12_close 36 = .ok (.bipush 12, 2) := by decide +kernel
theorem dX12_close_38 : decode cX12_close 38 = .ok (.if_icmp .ge 43, 3) := by decide +kernel
theorem dX12_close_41 : decode cX12_close 41 = .ok (.aload_n 0, 1) := by decide +kernel
theorem dX12_close_42 : decode cX12_close 42 = .ok (.getfield 19, 3) := by decide +kernel
theorem dX12_close_45 : decode cX12_close 45 = .ok (.bipush 17, 2) := by decide +kernel
theorem dX12_close_47 : decode cX12_close 47 = .ok (.iload_n 2, 1) := by decide +kernel
theorem dX12_close_48 : decode cX12_close 48 = .ok (.iadd, 1) := by decide +kernel
theorem dX12_close_49 : decode cX12_close 49 = .ok (.aload_n 0, 1) := by decide +kernel
theorem dX12_close_50 : decode cX12_close 50 = .ok (.getfield 19, 3) := by decide +kernel
theorem dX12_close_53 : decode cX12_close 53 = .ok (.iconst 5, 1) := by decide +kernel
theorem dX12_close_54 : decode cX12_close 54 = .ok (.iload_n 2, 1) := by decide +kernel
theorem dX12_close_55 : decode cX12_close 55 = .ok (.iadd, 1) := by decide +kernel
theorem dX12_close_56 : decode cX12_close 56 = .ok (.iaload, 1) := by decide +kernel
theorem dX12_close_57 : decode cX12_close 57 = .ok (.iastore, 1) := by decide +kernel
theorem dX12_close_58 : decode cX12_close 58 = .ok (.aload_n 0, 1) := by decide +kernel
theorem dX12_close_59 : decode cX12_close 59 = .ok (.getfield 19, 3) := by decide +kernel
theorem dX12_close_62 : decode cX12_close 62 = .ok (.bipush 29, 2) := by decide +kernel
theorem dX12_close_64 : decode cX12_close 64 = .ok (.iload_n 2, 1) := by decide +kernel
theorem dX12_close_65 : decode cX12_close 65 = .ok (.iadd, 1) := by decide +kernel
theorem dX12_close_66 : decode cX12_close 66 = .ok (.aload_n 0, 1) := by decide +kernel
theorem dX12_close_67 : decode cX12_close 67 = .ok (.getfield 19, 3) := by decide +kernel
theorem dX12_close_70 : decode cX12_close 70 = .ok (.iconst 5, 1) := by decide +kernel
theorem dX12_close_71 : decode cX12_close 71 = .ok (.iload_n 2, 1) := by decide +kernel
theorem dX12_close_72 : decode cX12_close 72 = .ok (.iadd, 1) := by decide +kernel
theorem dX12_close_73 : decode cX12_close 73 = .ok (.iaload, 1) := by decide +kernel
theorem dX12_close_74 : decode cX12_close 74 = .ok (.iastore, 1) := by decide +kernel
theorem dX12_close_75 : decode cX12_close 75 = .ok (.iinc 2 1, 3) := by decide +kernel
theorem dX12_close_78 : decode cX12_close 78 = .ok (.goto (-43), 3) := by decide +kernel
theorem dX12_close_81 : decode cX12_close 81 = .ok (.iload_n 1, 1) := by decide +kernel
theorem dX12_close_82 : decode cX12_close 82 = .ok (.ireturn, 1) := by decide +kernel
theorem dX12_undo_0 : decode cX12_undo 0 = .ok (.aload_n 0, 1) := by decide +kernel
theorem dX12_undo_1 : decode cX12_undo 1 = .ok (.iconst 0, 1) := by decide +kernel
theorem dX12_undo_2 : decode cX12_undo 2 = .ok (.putfield 53, 3) := by decide +kernel
theorem dX12_undo_5 : decode cX12_undo 5 = .ok (.aload_n 0, 1) := by decide +kernel
theorem dX12_undo_6 : decode cX12_undo 6 = .ok (.getfield 152, 3) := by decide +kernel
theorem dX12_undo_9 : decode cX12_undo 9 = .ok (.ifCond .ne 6, 3) := by decide +kernel
theorem dX12_undo_12 : decode cX12_undo 12 = .ok (.ldc 188, 2) := by decide +kernel
theorem dX12_undo_14 : decode cX12_undo 14 = .ok (.ireturn, 1) := by decide +kernel
theorem dX12_undo_15 : decode cX12_undo 15 = .ok (.aload_n 0, 1) := by decide +kernel
theorem dX12_undo_16 : decode cX12_undo 16 = .ok (.dup, 1) := by decide +kernel
theorem dX12_undo_17 : decode cX12_undo 17 = .ok (.getfield 152, 3) := by decide +kernel
theorem dX12_undo_20 : decode cX12_undo 20 = .ok (.iconst 1, 1) := by decide +kernel
theorem dX12_undo_21 : decode cX12_undo 21 = .ok (.isub, 1) := by decide +kernel
theorem dX12_undo_22 : decode cX12_undo 22 = .ok (.putfield 152, 3) := by decide +kernel
theorem dX12_undo_25 : decode cX12_undo 25 = .ok (.iconst 0, 1) := by decide +kernel
theorem dX12_undo_26 : decode cX12_undo 26 = .ok (.istore_n 1, 1) := by decide +kernel
theorem dX12_undo_27 : decode cX12_undo 27 = .ok (.iload_n 1, 1) := by decide +kernel
theorem dX12_undo_28 : decode cX12_undo 28 = .ok (.sipush 147, 3) := by decide +kernel
theorem dX12_undo_31 : decode cX12_undo 31 = .ok (.if_icmp .ge 30, 3) := by decide +kernel
theorem dX12_undo_34 : decode cX12_undo 34 = .ok (.aload_n 0, 1) := by decide +kernel
theorem dX12_undo_35 : decode cX12_undo 35 = .ok (.getfield 19, 3) := by decide +kernel
theorem dX12_undo_38 : decode cX12_undo 38 = .ok (.iload_n 1, 1) := by decide +kernel
theorem dX12_undo_39 : decode cX12_undo 39 = .ok (.aload_n 0, 1) := by decide +kernel
theorem dX12_undo_40 : decode cX12_undo 40 = .ok (.getfield 25, 3) := by decide +kernel
theorem dX12_undo_43 : decode cX12_undo 43 = .ok (.sipush 147, 3) := by decide +kernel
theorem dX12_undo_46 : decode cX12_undo 46 = .ok (.aload_n 0, 1) := by decide +kernel
theorem dX12_undo_47 : decode cX12_undo 47 = .ok (.getfield 152, 3) := by decide +kernel
theorem dX12_undo_50 : decode cX12_undo 50 = .ok (.imul, 1) := by decide +kernel
theorem dX12_undo_51 : decode cX12_undo 51 = .ok (.iload_n 1, 1) := by decide +kernel
theorem dX12_undo_52 : decode cX12_undo 52 = .ok (.iadd, 1) := by decide +kernel
theorem dX12_undo_53 : decode cX12_undo 53 = .ok (.iaload, 1) := by decide +kernel
theorem dX12_undo_54 : decode cX12_undo 54 = .ok (.iastore, 1) := by decide +kernel
theorem dX12_undo_55 : decode cX12_undo 55 = .ok (.iinc 1 1, 3) := by decide +kernel
theorem dX12_undo_58 : decode cX12_undo 58 = .ok (.goto (-31), 3) := by decide +kernel
theorem dX12_undo_61 : decode cX12_undo 61 = .ok (.aload_n 0, 1) := by decide +kernel
theorem dX12_undo_62 : decode cX12_undo 62 = .ok (.getfield 152, 3) := by decide +kernel
theorem dX12_undo_65 : decode cX12_undo 65 = .ok (.ireturn, 1) := by decide +kernel
theorem dX12_pinchOf_0 : decode cX12_pinchOf 0 = .ok (.aload_n 0, 1) := by decide +kernel
theorem dX12_pinchOf_1 : decode cX12_pinchOf 1 = .ok (.getfield 19, 3) := by decide +kernel
theorem dX12_pinchOf_4 : decode cX12_pinchOf 4 = .ok (.bipush 29, 2) := by decide +kernel
theorem dX12_pinchOf_6 : decode cX12_pinchOf 6 = .ok (.iconst 3, 1) := by decide +kernel
theorem dX12_pinchOf_7 : decode cX12_pinchOf 7 = .ok (.iload_n 1, 1) := by decide +kernel
theorem dX12_pinchOf_8 : decode cX12_pinchOf 8 = .ok (.imul, 1) := by decide +kernel
theorem dX12_pinchOf_9 : decode cX12_pinchOf 9 = .ok (.iadd, 1) := by decide +kernel
theorem dX12_pinchOf_10 : decode cX12_pinchOf 10 = .ok (.iload_n 2, 1) := by decide +kernel
theorem dX12_pinchOf_11 : decode cX12_pinchOf 11 = .ok (.iadd, 1) := by decide +kernel
theorem dX12_pinchOf_12 : decode cX12_pinchOf 12 = .ok (.iaload, 1) := by decide +kernel
theorem dX12_pinchOf_13 : decode cX12_pinchOf 13 = .ok (.aload_n 0, 1) := by decide +kernel
theorem dX12_pinchOf_14 : decode cX12_pinchOf 14 = .ok (.getfield 19, 3) := by decide +kernel
theorem dX12_pinchOf_17 : decode cX12_pinchOf 17 = .ok (.iconst 5, 1) := by decide +kernel
theorem dX12_pinchOf_18 : decode cX12_pinchOf 18 = .ok (.iconst 3, 1) := by decide +kernel
theorem dX12_pinchOf_19 : decode cX12_pinchOf 19 = .ok (.iload_n 1, 1) := by decide +kernel
theorem dX12_pinchOf_20 : decode cX12_pinchOf 20 = .ok (.imul, 1) := by decide +kernel
theorem dX12_pinchOf_21 : decode cX12_pinchOf 21 = .ok (.iadd, 1) := by decide +kernel
theorem dX12_pinchOf_22 : decode cX12_pinchOf 22 = .ok (.iload_n 2, 1) := by decide +kernel
theorem dX12_pinchOf_23 : decode cX12_pinchOf 23 = .ok (.iadd, 1) := by decide +kernel
theorem dX12_pinchOf_24 : decode cX12_pinchOf 24 = .ok (.iaload, 1) := by decide +kernel
theorem dX12_pinchOf_25 : decode cX12_pinchOf 25 = .ok (.isub, 1) := by decide +kernel
theorem dX12_pinchOf_26 : decode cX12_pinchOf 26 = .ok (.ireturn, 1) := by decide +kernel
theorem dX12_dummy_0 : decode cX12_dummy 0 = .ok (.aload_n 0, 1) := by decide +kernel
theorem dX12_dummy_1 : decode cX12_dummy 1 = .ok (.iconst 0, 1) := by decide +kernel
theorem dX12_dummy_2 : decode cX12_dummy 2 = .ok (.putfield 53, 3) := by decide +kernel
theorem dX12_dummy_5 : decode cX12_dummy 5 = .ok (.aload_n 0, 1) := by decide +kernel
theorem dX12_dummy_6 : decode cX12_dummy 6 = .ok (.iload_n 1, 1) := by decide +kernel
theorem dX12_dummy_7 : decode cX12_dummy 7 = .ok (.invokevirtual 161, 3) := by decide +kernel
theorem dX12_dummy_10 : decode cX12_dummy 10 = .ok (.ifCond .eq 10, 3) := by decide +kernel
theorem dX12_dummy_13 : decode cX12_dummy 13 = .ok (.iload_n 2, 1) := by decide +kernel
theorem dX12_dummy_14 : decode cX12_dummy 14 = .ok (.invokestatic 164, 3) := by decide +kernel
theorem dX12_dummy_17 : decode cX12_dummy 17 = .ok (.ifCond .ne 6, 3) := by decide +kernel
theorem dX12_dummy_20 : decode cX12_dummy 20 = .ok (.ldc 73, 2) := by decide +kernel
theorem dX12_dummy_22 : decode cX12_dummy 22 = .ok (.ireturn, 1) := by decide +kernel
theorem dX12_dummy_23 : decode cX12_dummy 23 = .ok (.iload_n 3, 1) := by decide +kernel
theorem dX12_dummy_24 : decode cX12_dummy 24 = .ok (.tableswitch 80 0 3 #[32, 45, 59, 73], 32) := by decide +kernel
theorem dX12_dummy_56 : decode cX12_dummy 56 = .ok (.aload_n 0, 1) := by decide +kernel
theorem dX12_dummy_57 : decode cX12_dummy 57 = .ok (.getfield 19, 3) := by decide +kernel
theorem dX12_dummy_60 : decode cX12_dummy 60 = .ok (.iconst 5, 1) := by decide +kernel
theorem dX12_dummy_61 : decode cX12_dummy 61 = .ok (.iconst 3, 1) := by decide +kernel
theorem dX12_dummy_62 : decode cX12_dummy 62 = .ok (.iload_n 1, 1) := by decide +kernel
theorem dX12_dummy_63 : decode cX12_dummy 63 = .ok (.imul, 1) := by decide +kernel
theorem dX12_dummy_64 : decode cX12_dummy 64 = .ok (.iadd, 1) := by decide +kernel
theorem dX12_dummy_65 : decode cX12_dummy 65 = .ok (.iload_n 2, 1) := by decide +kernel
theorem dX12_dummy_66 : decode cX12_dummy 66 = .ok (.iadd, 1) := by decide +kernel
theorem dX12_dummy_67 : decode cX12_dummy 67 = .ok (.iaload, 1) := by decide +kernel
theorem dX12_dummy_68 : decode cX12_dummy 68 = .ok (.ireturn, 1) := by decide +kernel
theorem dX12_dummy_69 : decode cX12_dummy 69 = .ok (.aload_n 0, 1) := by decide +kernel
theorem dX12_dummy_70 : decode cX12_dummy 70 = .ok (.getfield 19, 3) := by decide +kernel
theorem dX12_dummy_73 : decode cX12_dummy 73 = .ok (.bipush 17, 2) := by decide +kernel
theorem dX12_dummy_75 : decode cX12_dummy 75 = .ok (.iconst 3, 1) := by decide +kernel
theorem dX12_dummy_76 : decode cX12_dummy 76 = .ok (.iload_n 1, 1) := by decide +kernel
theorem dX12_dummy_77 : decode cX12_dummy 77 = .ok (.imul, 1) := by decide +kernel
theorem dX12_dummy_78 : decode cX12_dummy 78 = .ok (.iadd, 1) := by decide +kernel
theorem dX12_dummy_79 : decode cX12_dummy 79 = .ok (.iload_n 2, 1) := by decide +kernel
theorem dX12_dummy_80 : decode cX12_dummy 80 = .ok (.iadd, 1) := by decide +kernel
theorem dX12_dummy_81 : decode cX12_dummy 81 = .ok (.iaload, 1) := by decide +kernel
theorem dX12_dummy_82 : decode cX12_dummy 82 = .ok (.ireturn, 1) := by decide +kernel
theorem dX12_dummy_83 : decode cX12_dummy 83 = .ok (.aload_n 0, 1) := by decide +kernel
theorem dX12_dummy_84 : decode cX12_dummy 84 = .ok (.getfield 19, 3) := by decide +kernel
theorem dX12_dummy_87 : decode cX12_dummy 87 = .ok (.bipush 29, 2) := by decide +kernel
theorem dX12_dummy_89 : decode cX12_dummy 89 = .ok (.iconst 3, 1) := by decide +kernel
theorem dX12_dummy_90 : decode cX12_dummy 90 = .ok (.iload_n 1, 1) := by decide +kernel
theorem dX12_dummy_91 : decode cX12_dummy 91 = .ok (.imul, 1) := by decide +kernel
theorem dX12_dummy_92 : decode cX12_dummy 92 = .ok (.iadd, 1) := by decide +kernel
theorem dX12_dummy_93 : decode cX12_dummy 93 = .ok (.iload_n 2, 1) := by decide +kernel
theorem dX12_dummy_94 : decode cX12_dummy 94 = .ok (.iadd, 1) := by decide +kernel
theorem dX12_dummy_95 : decode cX12_dummy 95 = .ok (.iaload, 1) := by decide +kernel
theorem dX12_dummy_96 : decode cX12_dummy 96 = .ok (.ireturn, 1) := by decide +kernel
theorem dX12_dummy_97 : decode cX12_dummy 97 = .ok (.aload_n 0, 1) := by decide +kernel
theorem dX12_dummy_98 : decode cX12_dummy 98 = .ok (.iload_n 1, 1) := by decide +kernel
theorem dX12_dummy_99 : decode cX12_dummy 99 = .ok (.iload_n 2, 1) := by decide +kernel
theorem dX12_dummy_100 : decode cX12_dummy 100 = .ok (.invokevirtual 192, 3) := by decide +kernel
theorem dX12_dummy_103 : decode cX12_dummy 103 = .ok (.ireturn, 1) := by decide +kernel
theorem dX12_dummy_104 : decode cX12_dummy 104 = .ok (.ldc 73, 2) := by decide +kernel
theorem dX12_dummy_106 : decode cX12_dummy 106 = .ok (.ireturn, 1) := by decide +kernel
theorem dX12_line_0 : decode cX12_line 0 = .ok (.aload_n 0, 1) := by decide +kernel
theorem dX12_line_1 : decode cX12_line 1 = .ok (.iconst 0, 1) := by decide +kernel
theorem dX12_line_2 : decode cX12_line 2 = .ok (.putfield 53, 3) := by decide +kernel
theorem dX12_line_5 : decode cX12_line 5 = .ok (.iload_n 1, 1) := by decide +kernel
theorem dX12_line_6 : decode cX12_line 6 = .ok (.i2l, 1) := by decide +kernel
theorem dX12_line_7 : decode cX12_line 7 = .ok (.lconst 0, 1) := by decide +kernel
theorem dX12_line_8 : decode cX12_line 8 = .ok (.aload_n 0, 1) := by decide +kernel
theorem dX12_line_9 : decode cX12_line 9 = .ok (.getfield 19, 3) := by decide +kernel
theorem dX12_line_12 : decode cX12_line 12 = .ok (.iconst 4, 1) := by decide +kernel
theorem dX12_line_13 : decode cX12_line 13 = .ok (.iaload, 1) := by decide +kernel
theorem dX12_line_14 : decode cX12_line 14 = .ok (.iconst 1, 1) := by decide +kernel
theorem dX12_line_15 : decode cX12_line 15 = .ok (.isub, 1) := by decide +kernel
theorem dX12_line_16 : decode cX12_line 16 = .ok (.i2l, 1) := by decide +kernel
theorem dX12_line_17 : decode cX12_line 17 = .ok (.invokestatic 63, 3) := by decide +kernel
theorem dX12_line_20 : decode cX12_line 20 = .ok (.ifCond .eq 24, 3) := by decide +kernel
theorem dX12_line_23 : decode cX12_line 23 = .ok (.iload_n 2, 1) := by decide +kernel
theorem dX12_line_24 : decode cX12_line 24 = .ok (.i2l, 1) := by decide +kernel
theorem dX12_line_25 : decode cX12_line 25 = .ok (.lconst 0, 1) := by decide +kernel
theorem dX12_line_26 : decode cX12_line 26 = .ok (.ldc2_w 195, 3) := by decide +kernel
theorem dX12_line_29 : decode cX12_line 29 = .ok (.invokestatic 63, 3) := by decide +kernel
theorem dX12_line_32 : decode cX12_line 32 = .ok (.ifCond .eq 12, 3) := by decide +kernel
theorem dX12_line_35 : decode cX12_line 35 = .ok (.aload_n 0, 1) := by decide +kernel
theorem dX12_line_36 : decode cX12_line 36 = .ok (.iload_n 1, 1) := by decide +kernel
theorem dX12_line_37 : decode cX12_line 37 = .ok (.iload_n 2, 1) := by decide +kernel
theorem dX12_line_38 : decode cX12_line 38 = .ok (.invokevirtual 197, 3) := by decide +kernel
theorem dX12_line_41 : decode cX12_line 41 = .ok (.goto 5, 3) := by decide +kernel
theorem dX12_line_44 : decode cX12_line 44 = .ok (.ldc 73, 2) := by decide +kernel
theorem dX12_line_46 : decode cX12_line 46 = .ok (.ireturn, 1) := by decide +kernel
theorem dX12_pads_0 : decode cX12_pads 0 = .ok (.aload_n 0, 1) := by decide +kernel
theorem dX12_pads_1 : decode cX12_pads 1 = .ok (.iconst 0, 1) := by decide +kernel
theorem dX12_pads_2 : decode cX12_pads 2 = .ok (.putfield 53, 3) := by decide +kernel
theorem dX12_pads_5 : decode cX12_pads 5 = .ok (.aload_n 0, 1) := by decide +kernel
theorem dX12_pads_6 : decode cX12_pads 6 = .ok (.iload_n 1, 1) := by decide +kernel
theorem dX12_pads_7 : decode cX12_pads 7 = .ok (.invokevirtual 158, 3) := by decide +kernel
theorem dX12_pads_10 : decode cX12_pads 10 = .ok (.ifCond .eq 26, 3) := by decide +kernel
theorem dX12_pads_13 : decode cX12_pads 13 = .ok (.iload_n 2, 1) := by decide +kernel
theorem dX12_pads_14 : decode cX12_pads 14 = .ok (.i2l, 1) := by decide +kernel
theorem dX12_pads_15 : decode cX12_pads 15 = .ok (.ldc2_w 167, 3) := by decide +kernel
theorem dX12_pads_18 : decode cX12_pads 18 = .ok (.ldc2_w 169, 3) := by decide +kernel
theorem dX12_pads_21 : decode cX12_pads 21 = .ok (.invokestatic 63, 3) := by decide +kernel
theorem dX12_pads_24 : decode cX12_pads 24 = .ok (.ifCond .eq 12, 3) := by decide +kernel
theorem dX12_pads_27 : decode cX12_pads 27 = .ok (.aload_n 0, 1) := by decide +kernel
theorem dX12_pads_28 : decode cX12_pads 28 = .ok (.iload_n 1, 1) := by decide +kernel
theorem dX12_pads_29 : decode cX12_pads 29 = .ok (.iload_n 2, 1) := by decide +kernel
theorem dX12_pads_30 : decode cX12_pads 30 = .ok (.invokevirtual 171, 3) := by decide +kernel
theorem dX12_pads_33 : decode cX12_pads 33 = .ok (.goto 5, 3) := by decide +kernel
theorem dX12_pads_36 : decode cX12_pads 36 = .ok (.ldc 73, 2) := by decide +kernel
theorem dX12_pads_38 : decode cX12_pads 38 = .ok (.ireturn, 1) := by decide +kernel
theorem dX12_was_0 : decode cX12_was 0 = .ok (.aload_n 0, 1) := by decide +kernel
theorem dX12_was_1 : decode cX12_was 1 = .ok (.iconst 0, 1) := by decide +kernel
theorem dX12_was_2 : decode cX12_was 2 = .ok (.putfield 53, 3) := by decide +kernel
theorem dX12_was_5 : decode cX12_was 5 = .ok (.iload_n 1, 1) := by decide +kernel
theorem dX12_was_6 : decode cX12_was 6 = .ok (.i2l, 1) := by decide +kernel
theorem dX12_was_7 : decode cX12_was 7 = .ok (.lconst 0, 1) := by decide +kernel
theorem dX12_was_8 : decode cX12_was 8 = .ok (.aload_n 0, 1) := by decide +kernel
theorem dX12_was_9 : decode cX12_was 9 = .ok (.getfield 19, 3) := by decide +kernel
theorem dX12_was_12 : decode cX12_was 12 = .ok (.iconst 4, 1) := by decide +kernel
theorem dX12_was_13 : decode cX12_was 13 = .ok (.iaload, 1) := by decide +kernel
theorem dX12_was_14 : decode cX12_was 14 = .ok (.i2l, 1) := by decide +kernel
theorem dX12_was_15 : decode cX12_was 15 = .ok (.invokestatic 63, 3) := by decide +kernel
theorem dX12_was_18 : decode cX12_was 18 = .ok (.ifCond .eq 18, 3) := by decide +kernel
theorem dX12_was_21 : decode cX12_was 21 = .ok (.aload_n 0, 1) := by decide +kernel
theorem dX12_was_22 : decode cX12_was 22 = .ok (.iload_n 2, 1) := by decide +kernel
theorem dX12_was_23 : decode cX12_was 23 = .ok (.invokevirtual 161, 3) := by decide +kernel
theorem dX12_was_26 : decode cX12_was 26 = .ok (.ifCond .eq 10, 3) := by decide +kernel
theorem dX12_was_29 : decode cX12_was 29 = .ok (.iload_n 3, 1) := by decide +kernel
theorem dX12_was_30 : decode cX12_was 30 = .ok (.invokestatic 164, 3) := by decide +kernel
theorem dX12_was_33 : decode cX12_was 33 = .ok (.ifCond .ne 6, 3) := by decide +kernel
theorem dX12_was_36 : decode cX12_was 36 = .ok (.ldc 73, 2) := by decide +kernel
theorem dX12_was_38 : decode cX12_was 38 = .ok (.ireturn, 1) := by decide +kernel
theorem dX12_was_39 : decode cX12_was 39 = .ok (.iconst 0, 1) := by decide +kernel
theorem dX12_was_40 : decode cX12_was 40 = .ok (.istore 4, 2) := by decide +kernel
theorem dX12_was_42 : decode cX12_was 42 = .ok (.iload 4, 2) := by decide +kernel
theorem dX12_was_44 : decode cX12_was 44 = .ok (.bipush 12, 2) := by decide +kernel
theorem dX12_was_46 : decode cX12_was 46 = .ok (.if_icmp .ge 26, 3) := by decide +kernel
theorem dX12_was_49 : decode cX12_was 49 = .ok (.aload_n 0, 1) := by decide +kernel
theorem dX12_was_50 : decode cX12_was 50 = .ok (.getfield 31, 3) := by decide +kernel
theorem dX12_was_53 : decode cX12_was 53 = .ok (.iload 4, 2) := by decide +kernel
theorem dX12_was_55 : decode cX12_was 55 = .ok (.aload_n 0, 1) := by decide +kernel
theorem dX12_was_56 : decode cX12_was 56 = .ok (.getfield 19, 3) := by decide +kernel
theorem dX12_was_59 : decode cX12_was 59 = .ok (.bipush 17, 2) := by decide +kernel
theorem dX12_was_61 : decode cX12_was 61 = .ok (.iload 4, 2) := by decide +kernel
theorem dX12_was_63 : decode cX12_was 63 = .ok (.iadd, 1) := by decide +kernel
theorem dX12_was_64 : decode cX12_was 64 = .ok (.iaload, 1) := by decide +kernel
theorem dX12_was_65 : decode cX12_was 65 = .ok (.iastore, 1) := by decide +kernel
theorem dX12_was_66 : decode cX12_was 66 = .ok (.iinc 4 1, 3) := by decide +kernel
theorem dX12_was_69 : decode cX12_was 69 = .ok (.goto (-27), 3) := by decide +kernel
theorem dX12_was_72 : decode cX12_was 72 = .ok (.iconst 0, 1) := by decide +kernel
theorem dX12_was_73 : decode cX12_was 73 = .ok (.istore 4, 2) := by decide +kernel
theorem dX12_was_75 : decode cX12_was 75 = .ok (.iload 4, 2) := by decide +kernel
theorem dX12_was_77 : decode cX12_was 77 = .ok (.iload_n 1, 1) := by decide +kernel
theorem dX12_was_78 : decode cX12_was 78 = .ok (.if_icmp .ge 189, 3) := by decide +kernel
theorem dX12_was_81 : decode cX12_was 81 = .ok (.aload_n 0, 1) := by decide +kernel
theorem dX12_was_82 : decode cX12_was 82 = .ok (.iload 4, 2) := by decide +kernel
theorem dX12_was_84 : decode cX12_was 84 = .ok (.iconst 0, 1) := by decide +kernel
theorem dX12_was_85 : decode cX12_was 85 = .ok (.invokevirtual 197, 3) := by decide +kernel
theorem dX12_was_88 : decode cX12_was 88 = .ok (.istore 5, 2) := by decide +kernel
theorem dX12_was_90 : decode cX12_was 90 = .ok (.iload 5, 2) := by decide +kernel
theorem dX12_was_92 : decode cX12_was 92 = .ok (.ifCond .ne 38, 3) := by decide +kernel
theorem dX12_was_95 : decode cX12_was 95 = .ok (.aload_n 0, 1) := by decide +kernel
theorem dX12_was_96 : decode cX12_was 96 = .ok (.getfield 31, 3) := by decide +kernel
theorem dX12_was_99 : decode cX12_was 99 = .ok (.iconst 3, 1) := by decide +kernel
theorem dX12_was_100 : decode cX12_was 100 = .ok (.aload_n 0, 1) := by decide +kernel
theorem dX12_was_101 : decode cX12_was 101 = .ok (.iload 4, 2) := by decide +kernel
theorem dX12_was_103 : decode cX12_was 103 = .ok (.iconst 2, 1) := by decide +kernel
theorem dX12_was_104 : decode cX12_was 104 = .ok (.invokevirtual 197, 3) := by decide +kernel
theorem dX12_was_107 : decode cX12_was 107 = .ok (.imul, 1) := by decide +kernel
theorem dX12_was_108 : decode cX12_was 108 = .ok (.aload_n 0, 1) := by decide +kernel
theorem dX12_was_109 : decode cX12_was 109 = .ok (.iload 4, 2) := by decide +kernel
theorem dX12_was_111 : decode cX12_was 111 = .ok (.iconst 3, 1) := by decide +kernel
theorem dX12_was_112 : decode cX12_was 112 = .ok (.invokevirtual 197, 3) := by decide +kernel
theorem dX12_was_115 : decode cX12_was 115 = .ok (.iadd, 1) := by decide +kernel
theorem dX12_was_116 : decode cX12_was 116 = .ok (.dup2, 1) := by decide +kernel
theorem dX12_was_117 : decode cX12_was 117 = .ok (.iaload, 1) := by decide +kernel
theorem dX12_was_118 : decode cX12_was 118 = .ok (.aload_n 0, 1) := by decide +kernel
theorem dX12_was_119 : decode cX12_was 119 = .ok (.iload 4, 2) := by decide +kernel
theorem dX12_was_121 : decode cX12_was 121 = .ok (.iconst 5, 1) := by decide +kernel
theorem dX12_was_122 : decode cX12_was 122 = .ok (.invokevirtual 197, 3) := by decide +kernel
theorem dX12_was_125 : decode cX12_was 125 = .ok (.iadd, 1) := by decide +kernel
theorem dX12_was_126 : decode cX12_was 126 = .ok (.iastore, 1) := by decide +kernel
theorem dX12_was_127 : decode cX12_was 127 = .ok (.goto 134, 3) := by decide +kernel
theorem dX12_was_130 : decode cX12_was 130 = .ok (.iload 5, 2) := by decide +kernel
theorem dX12_was_132 : decode cX12_was 132 = .ok (.iconst 1, 1) := by decide +kernel
theorem dX12_was_133 : decode cX12_was 133 = .ok (.if_icmp .ne 53, 3) := by decide +kernel
theorem dX12_was_136 : decode cX12_was 136 = .ok (.iconst 0, 1) := by decide +kernel
theorem dX12_was_137 : decode cX12_was 137 = .ok (.istore 6, 2) := by decide +kernel
theorem dX12_was_139 : decode cX12_was 139 = .ok (.iload 6, 2) := by decide +kernel
theorem dX12_was_141 : decode cX12_was 141 = .ok (.bipush 12, 2) := by decide +kernel
theorem dX12_was_143 : decode cX12_was 143 = .ok (.if_icmp .ge 40, 3) := by decide +kernel
theorem dX12_was_146 : decode cX12_was 146 = .ok (.aload_n 0, 1) := by decide +kernel
theorem dX12_was_147 : decode cX12_was 147 = .ok (.getfield 31, 3) := by decide +kernel
theorem dX12_was_150 : decode cX12_was 150 = .ok (.iload 6, 2) := by decide +kernel
theorem dX12_was_152 : decode cX12_was 152 = .ok (.dup2, 1) := by decide +kernel
theorem dX12_was_153 : decode cX12_was 153 = .ok (.iaload, 1) := by decide +kernel
theorem dX12_was_154 : decode cX12_was 154 = .ok (.aload_n 0, 1) := by decide +kernel
theorem dX12_was_155 : decode cX12_was 155 = .ok (.aload_n 0, 1) := by decide +kernel
theorem dX12_was_156 : decode cX12_was 156 = .ok (.getfield 31, 3) := by decide +kernel
theorem dX12_was_159 : decode cX12_was 159 = .ok (.iload 6, 2) := by decide +kernel
theorem dX12_was_161 : decode cX12_was 161 = .ok (.iaload, 1) := by decide +kernel
theorem dX12_was_162 : decode cX12_was 162 = .ok (.aload_n 0, 1) := by decide +kernel
theorem dX12_was_163 : decode cX12_was 163 = .ok (.getfield 19, 3) := by decide +kernel
theorem dX12_was_166 : decode cX12_was 166 = .ok (.bipush 17, 2) := by decide +kernel
theorem dX12_was_168 : decode cX12_was 168 = .ok (.iload 6, 2) := by decide +kernel
theorem dX12_was_170 : decode cX12_was 170 = .ok (.iadd, 1) := by decide +kernel
theorem dX12_was_171 : decode cX12_was 171 = .ok (.iaload, 1) := by decide +kernel
theorem dX12_was_172 : decode cX12_was 172 = .ok (.invokevirtual 189, 3) := by decide +kernel
theorem dX12_was_175 : decode cX12_was 175 = .ok (.isub, 1) := by decide +kernel
theorem dX12_was_176 : decode cX12_was 176 = .ok (.iastore, 1) := by decide +kernel
theorem dX12_was_177 : decode cX12_was 177 = .ok (.iinc 6 1, 3) := by decide +kernel
theorem dX12_was_180 : decode cX12_was 180 = .ok (.goto (-41), 3) := by decide +kernel
theorem dX12_was_183 : decode cX12_was 183 = .ok (.goto 78, 3) := by decide +kernel
theorem dX12_was_186 : decode cX12_was 186 = .ok (.iconst 0, 1) := by decide +kernel
theorem dX12_was_187 : decode cX12_was 187 = .ok (.istore 6, 2) := by decide +kernel
theorem dX12_was_189 : decode cX12_was 189 = .ok (.iload 6, 2) := by decide +kernel
theorem dX12_was_191 : decode cX12_was 191 = .ok (.iconst 3, 1) := by decide +kernel
theorem dX12_was_192 : decode cX12_was 192 = .ok (.if_icmp .ge 69, 3) := by decide +kernel
theorem dX12_was_195 : decode cX12_was 195 = .ok (.iconst 3, 1) := by decide +kernel
theorem dX12_was_196 : decode cX12_was 196 = .ok (.aload_n 0, 1) := by decide +kernel
theorem dX12_was_197 : decode cX12_was 197 = .ok (.iload 4, 2) := by decide +kernel
theorem dX12_was_199 : decode cX12_was 199 = .ok (.iconst 1, 1) := by decide +kernel
theorem dX12_was_200 : decode cX12_was 200 = .ok (.invokevirtual 197, 3) := by decide +kernel
theorem dX12_was_203 : decode cX12_was 203 = .ok (.imul, 1) := by decide +kernel
theorem dX12_was_204 : decode cX12_was 204 = .ok (.iload 6, 2) := by decide +kernel
theorem dX12_was_206 : decode cX12_was 206 = .ok (.iadd, 1) := by decide +kernel
theorem dX12_was_207 : decode cX12_was 207 = .ok (.istore 7, 2) := by decide +kernel
theorem dX12_was_209 : decode cX12_was 209 = .ok (.iconst 3, 1) := by decide +kernel
theorem dX12_was_210 : decode cX12_was 210 = .ok (.aload_n 0, 1) := by decide +kernel
theorem dX12_was_211 : decode cX12_was 211 = .ok (.iload 4, 2) := by decide +kernel
theorem dX12_was_213 : decode cX12_was 213 = .ok (.iconst 2, 1) := by decide +kernel
theorem dX12_was_214 : decode cX12_was 214 = .ok (.invokevirtual 197, 3) := by decide +kernel
theorem dX12_was_217 : decode cX12_was 217 = .ok (.imul, 1) := by decide +kernel
theorem dX12_was_218 : decode cX12_was 218 = .ok (.iload 6, 2) := by decide +kernel
theorem dX12_was_220 : decode cX12_was 220 = .ok (.iadd, 1) := by decide +kernel
theorem dX12_was_221 : decode cX12_was 221 = .ok (.istore 8, 2) := by decide +kernel
theorem dX12_was_223 : decode cX12_was 223 = .ok (.aload_n 0, 1) := by decide +kernel
theorem dX12_was_224 : decode cX12_was 224 = .ok (.getfield 31, 3) := by decide +kernel
theorem dX12_was_227 : decode cX12_was 227 = .ok (.iload 7, 2) := by decide +kernel
theorem dX12_was_229 : decode cX12_was 229 = .ok (.iaload, 1) := by decide +kernel
theorem dX12_was_230 : decode cX12_was 230 = .ok (.istore 9, 2) := by decide +kernel
theorem dX12_was_232 : decode cX12_was 232 = .ok (.aload_n 0, 1) := by decide +kernel
theorem dX12_was_233 : decode cX12_was 233 = .ok (.getfield 31, 3) := by decide +kernel
theorem dX12_was_236 : decode cX12_was 236 = .ok (.iload 7, 2) := by decide +kernel
theorem dX12_was_238 : decode cX12_was 238 = .ok (.aload_n 0, 1) := by decide +kernel
theorem dX12_was_239 : decode cX12_was 239 = .ok (.getfield 31, 3) := by decide +kernel
theorem dX12_was_242 : decode cX12_was 242 = .ok (.iload 8, 2) := by decide +kernel
theorem dX12_was_244 : decode cX12_was 244 = .ok (.iaload, 1) := by decide +kernel
theorem dX12_was_245 : decode cX12_was 245 = .ok (.iastore, 1) := by decide +kernel
theorem dX12_was_246 : decode cX12_was 246 = .ok (.aload_n 0, 1) := by decide +kernel
theorem dX12_was_247 : decode cX12_was 247 = .ok (.getfield 31, 3) := by decide +kernel
theorem dX12_was_250 : decode cX12_was 250 = .ok (.iload 8, 2) := by decide +kernel
theorem dX12_was_252 : decode cX12_was 252 = .ok (.iload 9, 2) := by decide +kernel
theorem dX12_was_254 : decode cX12_was 254 = .ok (.iastore, 1) := by decide +kernel
theorem dX12_was_255 : decode cX12_was 255 = .ok (.iinc 6 1, 3) := by decide +kernel
theorem dX12_was_258 : decode cX12_was 258 = .ok (.goto (-69), 3) := by decide +kernel
theorem dX12_was_261 : decode cX12_was 261 = .ok (.iinc 4 1, 3) := by decide +kernel
theorem dX12_was_264 : decode cX12_was 264 = .ok (.goto (-189), 3) := by decide +kernel
theorem dX12_was_267 : decode cX12_was 267 = .ok (.aload_n 0, 1) := by decide +kernel
theorem dX12_was_268 : decode cX12_was 268 = .ok (.getfield 31, 3) := by decide +kernel
theorem dX12_was_271 : decode cX12_was 271 = .ok (.iconst 3, 1) := by decide +kernel
theorem dX12_was_272 : decode cX12_was 272 = .ok (.iload_n 2, 1) := by decide +kernel
theorem dX12_was_273 : decode cX12_was 273 = .ok (.imul, 1) := by decide +kernel
theorem dX12_was_274 : decode cX12_was 274 = .ok (.iload_n 3, 1) := by decide +kernel
theorem dX12_was_275 : decode cX12_was 275 = .ok (.iadd, 1) := by decide +kernel
theorem dX12_was_276 : decode cX12_was 276 = .ok (.iaload, 1) := by decide +kernel
theorem dX12_was_277 : decode cX12_was 277 = .ok (.ireturn, 1) := by decide +kernel
theorem dX12_bits_0 : decode cX12_bits 0 = .ok (.iconst 0, 1) := by decide +kernel
theorem dX12_bits_1 : decode cX12_bits 1 = .ok (.istore_n 1, 1) := by decide +kernel
theorem dX12_bits_2 : decode cX12_bits 2 = .ok (.iconst 0, 1) := by decide +kernel
theorem dX12_bits_3 : decode cX12_bits 3 = .ok (.istore_n 2, 1) := by decide +kernel
theorem dX12_bits_4 : decode cX12_bits 4 = .ok (.iload_n 2, 1) := by decide +kernel
theorem dX12_bits_5 : decode cX12_bits 5 = .ok (.bipush 12, 2) := by decide +kernel
theorem dX12_bits_7 : decode cX12_bits 7 = .ok (.if_icmp .ge 17, 3) := by decide +kernel
theorem dX12_bits_10 : decode cX12_bits 10 = .ok (.iload_n 1, 1) := by decide +kernel
theorem dX12_bits_11 : decode cX12_bits 11 = .ok (.iload_n 0, 1) := by decide +kernel
theorem dX12_bits_12 : decode cX12_bits 12 = .ok (.iload_n 2, 1) := by decide +kernel
theorem dX12_bits_13 : decode cX12_bits 13 = .ok (.ishr, 1) := by decide +kernel
theorem dX12_bits_14 : decode cX12_bits 14 = .ok (.iconst 1, 1) := by decide +kernel
theorem dX12_bits_15 : decode cX12_bits 15 = .ok (.iand, 1) := by decide +kernel
theorem dX12_bits_16 : decode cX12_bits 16 = .ok (.iadd, 1) := by decide +kernel
theorem dX12_bits_17 : decode cX12_bits 17 = .ok (.istore_n 1, 1) := by decide +kernel
theorem dX12_bits_18 : decode cX12_bits 18 = .ok (.iinc 2 1, 3) := by decide +kernel
theorem dX12_bits_21 : decode cX12_bits 21 = .ok (.goto (-17), 3) := by decide +kernel
theorem dX12_bits_24 : decode cX12_bits 24 = .ok (.iload_n 1, 1) := by decide +kernel
theorem dX12_bits_25 : decode cX12_bits 25 = .ok (.ireturn, 1) := by decide +kernel
theorem dX12_isBy_0 : decode cX12_isBy 0 = .ok (.iconst 1, 1) := by decide +kernel
theorem dX12_isBy_1 : decode cX12_isBy 1 = .ok (.istore 4, 2) := by decide +kernel
theorem dX12_isBy_3 : decode cX12_isBy 3 = .ok (.iconst 0, 1) := by decide +kernel
theorem dX12_isBy_4 : decode cX12_isBy 4 = .ok (.istore 5, 2) := by decide +kernel
theorem dX12_isBy_6 : decode cX12_isBy 6 = .ok (.iload 5, 2) := by decide +kernel
theorem dX12_isBy_8 : decode cX12_isBy 8 = .ok (.iconst 3, 1) := by decide +kernel
theorem dX12_isBy_9 : decode cX12_isBy 9 = .ok (.if_icmp .ge 142, 3) := by decide +kernel
theorem dX12_isBy_12 : decode cX12_isBy 12 = .ok (.iconst 0, 1) := by decide +kernel
theorem dX12_isBy_13 : decode cX12_isBy 13 = .ok (.istore 6, 2) := by decide +kernel
theorem dX12_isBy_15 : decode cX12_isBy 15 = .ok (.iconst 0, 1) := by decide +kernel
theorem dX12_isBy_16 : decode cX12_isBy 16 = .ok (.istore 7, 2) := by decide +kernel
theorem dX12_isBy_18 : decode cX12_isBy 18 = .ok (.iload 7, 2) := by decide +kernel
theorem dX12_isBy_20 : decode cX12_isBy 20 = .ok (.aload_n 0, 1) := by decide +kernel
theorem dX12_isBy_21 : decode cX12_isBy 21 = .ok (.getfield 19, 3) := by decide +kernel
theorem dX12_isBy_24 : decode cX12_isBy 24 = .ok (.iconst 4, 1) := by decide +kernel
theorem dX12_isBy_25 : decode cX12_isBy 25 = .ok (.iaload, 1) := by decide +kernel
theorem dX12_isBy_26 : decode cX12_isBy 26 = .ok (.if_icmp .ge 93, 3) := by decide +kernel
theorem dX12_isBy_29 : decode cX12_isBy 29 = .ok (.aload_n 0, 1) := by decide +kernel
theorem dX12_isBy_30 : decode cX12_isBy 30 = .ok (.iload 7, 2) := by decide +kernel
theorem dX12_isBy_32 : decode cX12_isBy 32 = .ok (.iconst 0, 1) := by decide +kernel
theorem dX12_isBy_33 : decode cX12_isBy 33 = .ok (.invokevirtual 197, 3) := by decide +kernel
theorem dX12_isBy_36 : decode cX12_isBy 36 = .ok (.ifCond .ne 45, 3) := by decide +kernel
theorem dX12_isBy_39 : decode cX12_isBy 39 = .ok (.aload_n 0, 1) := by decide +kernel
theorem dX12_isBy_40 : decode cX12_isBy 40 = .ok (.iload 7, 2) := by decide +kernel
theorem dX12_isBy_42 : decode cX12_isBy 42 = .ok (.iconst 2, 1) := by decide +kernel
theorem dX12_isBy_43 : decode cX12_isBy 43 = .ok (.invokevirtual 197, 3) := by decide +kernel
theorem dX12_isBy_46 : decode cX12_isBy 46 = .ok (.iload_n 1, 1) := by decide +kernel
theorem dX12_isBy_47 : decode cX12_isBy 47 = .ok (.if_icmp .ne 34, 3) := by decide +kernel
theorem dX12_isBy_50 : decode cX12_isBy 50 = .ok (.aload_n 0, 1) := by decide +kernel
theorem dX12_isBy_51 : decode cX12_isBy 51 = .ok (.iload 7, 2) := by decide +kernel
theorem dX12_isBy_53 : decode cX12_isBy 53 = .ok (.iconst 3, 1) := by decide +kernel
theorem dX12_isBy_54 : decode cX12_isBy 54 = .ok (.invokevirtual 197, 3) := by decide +kernel
theorem dX12_isBy_57 : decode cX12_isBy 57 = .ok (.iload 5, 2) := by decide +kernel
theorem dX12_isBy_59 : decode cX12_isBy 59 = .ok (.if_icmp .ne 22, 3) := by decide +kernel
theorem dX12_isBy_62 : decode cX12_isBy 62 = .ok (.iload_n 3, 1) := by decide +kernel
theorem dX12_isBy_63 : decode cX12_isBy 63 = .ok (.aload_n 0, 1) := by decide +kernel
theorem dX12_isBy_64 : decode cX12_isBy 64 = .ok (.iload 7, 2) := by decide +kernel
theorem dX12_isBy_66 : decode cX12_isBy 66 = .ok (.iconst 1, 1) := by decide +kernel
theorem dX12_isBy_67 : decode cX12_isBy 67 = .ok (.invokevirtual 197, 3) := by decide +kernel
theorem dX12_isBy_70 : decode cX12_isBy 70 = .ok (.ishr, 1) := by decide +kernel
theorem dX12_isBy_71 : decode cX12_isBy 71 = .ok (.iconst 1, 1) := by decide +kernel
theorem dX12_isBy_72 : decode cX12_isBy 72 = .ok (.iand, 1) := by decide +kernel
theorem dX12_isBy_73 : decode cX12_isBy 73 = .ok (.iconst 1, 1) := by decide +kernel
theorem dX12_isBy_74 : decode cX12_isBy 74 = .ok (.if_icmp .ne 7, 3) := by decide +kernel
theorem dX12_isBy_77 : decode cX12_isBy 77 = .ok (.iconst 1, 1) := by decide +kernel
theorem dX12_isBy_78 : decode cX12_isBy 78 = .ok (.goto 4, 3) := by decide +kernel
theorem dX12_isBy_81 : decode cX12_isBy 81 = .ok (.iconst 0, 1) := by decide +kernel
theorem dX12_isBy_82 : decode cX12_isBy 82 = .ok (.istore 8, 2) := by decide +kernel
theorem dX12_isBy_84 : decode cX12_isBy 84 = .ok (.iload 6, 2) := by decide +kernel
theorem dX12_isBy_86 : decode cX12_isBy 86 = .ok (.iload 8, 2) := by decide +kernel
theorem dX12_isBy_88 : decode cX12_isBy 88 = .ok (.ifCond .eq 21, 3) := by decide +kernel
theorem dX12_isBy_91 : decode cX12_isBy 91 = .ok (.aload_n 0, 1) := by decide +kernel
theorem dX12_isBy_92 : decode cX12_isBy 92 = .ok (.iload 7, 2) := by decide +kernel
theorem dX12_isBy_94 : decode cX12_isBy 94 = .ok (.iconst 4, 1) := by decide +kernel
theorem dX12_isBy_95 : decode cX12_isBy 95 = .ok (.invokevirtual 197, 3) := by decide +kernel
theorem dX12_isBy_98 : decode cX12_isBy 98 = .ok (.aload_n 0, 1) := by decide +kernel
theorem dX12_isBy_99 : decode cX12_isBy 99 = .ok (.iload 7, 2) := by decide +kernel
theorem dX12_isBy_101 : decode cX12_isBy 101 = .ok (.iconst 5, 1) := by decide +kernel
theorem dX12_isBy_102 : decode cX12_isBy 102 = .ok (.invokevirtual 197, 3) := by decide +kernel
theorem dX12_isBy_105 : decode cX12_isBy 105 = .ok (.isub, 1) := by decide +kernel
theorem dX12_isBy_106 : decode cX12_isBy 106 = .ok (.goto 4, 3) := by decide +kernel
theorem dX12_isBy_109 : decode cX12_isBy 109 = .ok (.iconst 0, 1) := by decide +kernel
theorem dX12_isBy_110 : decode cX12_isBy 110 = .ok (.iadd, 1) := by decide +kernel
theorem dX12_isBy_111 : decode cX12_isBy 111 = .ok (.istore 6, 2) := by decide +kernel
theorem dX12_isBy_113 : decode cX12_isBy 113 = .ok (.iinc 7 1, 3) := by decide +kernel
theorem dX12_isBy_116 : decode cX12_isBy 116 = .ok (.goto (-98), 3) := by decide +kernel
theorem dX12_isBy_119 : decode cX12_isBy 119 = .ok (.iload 4, 2) := by decide +kernel
theorem dX12_isBy_121 : decode cX12_isBy 121 = .ok (.ifCond .eq 21, 3) := by decide +kernel
theorem dX12_isBy_124 : decode cX12_isBy 124 = .ok (.iload 6, 2) := by decide +kernel
theorem dX12_isBy_126 : decode cX12_isBy 126 = .ok (.aload_n 0, 1) := by decide +kernel
theorem dX12_isBy_127 : decode cX12_isBy 127 = .ok (.getfield 16, 3) := by decide +kernel
theorem dX12_isBy_130 : decode cX12_isBy 130 = .ok (.iload_n 2, 1) := by decide +kernel
theorem dX12_isBy_131 : decode cX12_isBy 131 = .ok (.iload 5, 2) := by decide +kernel
theorem dX12_isBy_133 : decode cX12_isBy 133 = .ok (.iadd, 1) := by decide +kernel
theorem dX12_isBy_134 : decode cX12_isBy 134 = .ok (.iaload, 1) := by decide +kernel
theorem dX12_isBy_135 : decode cX12_isBy 135 = .ok (.if_icmp .ne 7, 3) := by decide +kernel
theorem dX12_isBy_138 : decode cX12_isBy 138 = .ok (.iconst 1, 1) := by decide +kernel
theorem dX12_isBy_139 : decode cX12_isBy 139 = .ok (.goto 4, 3) := by decide +kernel
theorem dX12_isBy_142 : decode cX12_isBy 142 = .ok (.iconst 0, 1) := by decide +kernel
theorem dX12_isBy_143 : decode cX12_isBy 143 = .ok (.istore 4, 2) := by decide +kernel
theorem dX12_isBy_145 : decode cX12_isBy 145 = .ok (.iinc 5 1, 3) := by decide +kernel
theorem dX12_isBy_148 : decode cX12_isBy 148 = .ok (.goto (-142), 3) := by decide +kernel
theorem dX12_isBy_151 : decode cX12_isBy 151 = .ok (.iload 4, 2) := by decide +kernel
theorem dX12_isBy_153 : decode cX12_isBy 153 = .ok (.ireturn, 1) := by decide +kernel
theorem dX12_setsOf_0 : decode cX12_setsOf 0 = .ok (.iconst 0, 1) := by decide +kernel
theorem dX12_setsOf_1 : decode cX12_setsOf 1 = .ok (.istore 4, 2) := by decide +kernel
theorem dX12_setsOf_3 : decode cX12_setsOf 3 = .ok (.iconst 0, 1) := by decide +kernel
theorem dX12_setsOf_4 : decode cX12_setsOf 4 = .ok (.istore 5, 2) := by decide +kernel
theorem dX12_setsOf_6 : decode cX12_setsOf 6 = .ok (.iload 5, 2) := by decide +kernel
theorem dX12_setsOf_8 : decode cX12_setsOf 8 = .ok (.iconst 1, 1) := by decide +kernel
theorem dX12_setsOf_9 : decode cX12_setsOf 9 = .ok (.aload_n 0, 1) := by decide +kernel
theorem dX12_setsOf_10 : decode cX12_setsOf 10 = .ok (.getfield 19, 3) := by decide +kernel
theorem dX12_setsOf_13 : decode cX12_setsOf 13 = .ok (.iconst 3, 1) := by decide +kernel
theorem dX12_setsOf_14 : decode cX12_setsOf 14 = .ok (.iaload, 1) := by decide +kernel
theorem dX12_setsOf_15 : decode cX12_setsOf 15 = .ok (.ishl, 1) := by decide +kernel
theorem dX12_setsOf_16 : decode cX12_setsOf 16 = .ok (.if_icmp .ge 46, 3) := by decide +kernel
theorem dX12_setsOf_19 : decode cX12_setsOf 19 = .ok (.iload 4, 2) := by decide +kernel
theorem dX12_setsOf_21 : decode cX12_setsOf 21 = .ok (.iload_n 3, 1) := by decide +kernel
theorem dX12_setsOf_22 : decode cX12_setsOf 22 = .ok (.ldc 96, 2) := by decide +kernel
theorem dX12_setsOf_24 : decode cX12_setsOf 24 = .ok (.if_icmp .eq 13, 3) := by decide +kernel
theorem dX12_setsOf_27 : decode cX12_setsOf 27 = .ok (.iload 5, 2) := by decide +kernel
theorem dX12_setsOf_29 : decode cX12_setsOf 29 = .ok (.iload_n 3, 1) := by decide +kernel
theorem dX12_setsOf_30 : decode cX12_setsOf 30 = .ok (.ishr, 1) := by decide +kernel
theorem dX12_setsOf_31 : decode cX12_setsOf 31 = .ok (.iconst 1, 1) := by decide +kernel
theorem dX12_setsOf_32 : decode cX12_setsOf 32 = .ok (.iand, 1) := by decide +kernel
theorem dX12_setsOf_33 : decode cX12_setsOf 33 = .ok (.iconst 1, 1) := by decide +kernel
theorem dX12_setsOf_34 : decode cX12_setsOf 34 = .ok (.if_icmp .ne 18, 3) := by decide +kernel
theorem dX12_setsOf_37 : decode cX12_setsOf 37 = .ok (.aload_n 0, 1) := by decide +kernel
theorem dX12_setsOf_38 : decode cX12_setsOf 38 = .ok (.iload_n 1, 1) := by decide +kernel
theorem dX12_setsOf_39 : decode cX12_setsOf 39 = .ok (.iload_n 2, 1) := by decide +kernel
theorem dX12_setsOf_40 : decode cX12_setsOf 40 = .ok (.iload 5, 2) := by decide +kernel
theorem dX12_setsOf_42 : decode cX12_setsOf 42 = .ok (.invokevirtual 200, 3) := by decide +kernel
theorem dX12_setsOf_45 : decode cX12_setsOf 45 = .ok (.ifCond .eq 7, 3) := by decide +kernel
theorem dX12_setsOf_48 : decode cX12_setsOf 48 = .ok (.iconst 1, 1) := by decide +kernel
theorem dX12_setsOf_49 : decode cX12_setsOf 49 = .ok (.goto 4, 3) := by decide +kernel
theorem dX12_setsOf_52 : decode cX12_setsOf 52 = .ok (.iconst 0, 1) := by decide +kernel
theorem dX12_setsOf_53 : decode cX12_setsOf 53 = .ok (.iadd, 1) := by decide +kernel
theorem dX12_setsOf_54 : decode cX12_setsOf 54 = .ok (.istore 4, 2) := by decide +kernel
theorem dX12_setsOf_56 : decode cX12_setsOf 56 = .ok (.iinc 5 1, 3) := by decide +kernel
theorem dX12_setsOf_59 : decode cX12_setsOf 59 = .ok (.goto (-53), 3) := by decide +kernel
theorem dX12_setsOf_62 : decode cX12_setsOf 62 = .ok (.iload 4, 2) := by decide +kernel
theorem dX12_setsOf_64 : decode cX12_setsOf 64 = .ok (.ireturn, 1) := by decide +kernel
theorem dX12_noRow_0 : decode cX12_noRow 0 = .ok (.aload_n 0, 1) := by decide +kernel
theorem dX12_noRow_1 : decode cX12_noRow 1 = .ok (.getfield 7, 3) := by decide +kernel
theorem dX12_noRow_4 : decode cX12_noRow 4 = .ok (.iload_n 1, 1) := by decide +kernel
theorem dX12_noRow_5 : decode cX12_noRow 5 = .ok (.iaload, 1) := by decide +kernel
theorem dX12_noRow_6 : decode cX12_noRow 6 = .ok (.ifCond .ge 9, 3) := by decide +kernel
theorem dX12_noRow_9 : decode cX12_noRow 9 = .ok (.aload_n 0, 1) := by decide +kernel
theorem dX12_noRow_10 : decode cX12_noRow 10 = .ok (.iconst 1, 1) := by decide +kernel
theorem dX12_noRow_11 : decode cX12_noRow 11 = .ok (.invokevirtual 74, 3) := by decide +kernel
theorem dX12_noRow_14 : decode cX12_noRow 14 = .ok (.ireturn, 1) := by decide +kernel
theorem dX12_noRow_15 : decode cX12_noRow 15 = .ok (.iload_n 2, 1) := by decide +kernel
theorem dX12_noRow_16 : decode cX12_noRow 16 = .ok (.ifCond .lt 19, 3) := by decide +kernel
theorem dX12_noRow_19 : decode cX12_noRow 19 = .ok (.iload_n 2, 1) := by decide +kernel
theorem dX12_noRow_20 : decode cX12_noRow 20 = .ok (.i2l, 1) := by decide +kernel
theorem dX12_noRow_21 : decode cX12_noRow 21 = .ok (.iload_n 3, 1) := by decide +kernel
theorem dX12_noRow_22 : decode cX12_noRow 22 = .ok (.i2l, 1) := by decide +kernel
theorem dX12_noRow_23 : decode cX12_noRow 23 = .ok (.ladd, 1) := by decide +kernel
theorem dX12_noRow_24 : decode cX12_noRow 24 = .ok (.aload_n 0, 1) := by decide +kernel
theorem dX12_noRow_25 : decode cX12_noRow 25 = .ok (.getfield 13, 3) := by decide +kernel
theorem dX12_noRow_28 : decode cX12_noRow 28 = .ok (.iload_n 1, 1) := by decide +kernel
theorem dX12_noRow_29 : decode cX12_noRow 29 = .ok (.iaload, 1) := by decide +kernel
theorem dX12_noRow_30 : decode cX12_noRow 30 = .ok (.i2l, 1) := by decide +kernel
theorem dX12_noRow_31 : decode cX12_noRow 31 = .ok (.lcmp, 1) := by decide +kernel
theorem dX12_noRow_32 : decode cX12_noRow 32 = .ok (.ifCond .le 9, 3) := by decide +kernel
theorem dX12_noRow_35 : decode cX12_noRow 35 = .ok (.aload_n 0, 1) := by decide +kernel
theorem dX12_noRow_36 : decode cX12_noRow 36 = .ok (.iconst 2, 1) := by decide +kernel
theorem dX12_noRow_37 : decode cX12_noRow 37 = .ok (.invokevirtual 74, 3) := by decide +kernel
theorem dX12_noRow_40 : decode cX12_noRow 40 = .ok (.ireturn, 1) := by decide +kernel
theorem dX12_noRow_41 : decode cX12_noRow 41 = .ok (.aload_n 0, 1) := by decide +kernel
theorem dX12_noRow_42 : decode cX12_noRow 42 = .ok (.iconst 0, 1) := by decide +kernel
theorem dX12_noRow_43 : decode cX12_noRow 43 = .ok (.putfield 57, 3) := by decide +kernel
theorem dX12_noRow_46 : decode cX12_noRow 46 = .ok (.iconst 0, 1) := by decide +kernel
theorem dX12_noRow_47 : decode cX12_noRow 47 = .ok (.ireturn, 1) := by decide +kernel
theorem dX12_liars_0 : decode cX12_liars 0 = .ok (.aload_n 0, 1) := by decide +kernel
theorem dX12_liars_1 : decode cX12_liars 1 = .ok (.iconst 0, 1) := by decide +kernel
theorem dX12_liars_2 : decode cX12_liars 2 = .ok (.putfield 53, 3) := by decide +kernel
theorem dX12_liars_5 : decode cX12_liars 5 = .ok (.aload_n 0, 1) := by decide +kernel
theorem dX12_liars_6 : decode cX12_liars 6 = .ok (.iload_n 1, 1) := by decide +kernel
theorem dX12_liars_7 : decode cX12_liars 7 = .ok (.invokevirtual 161, 3) := by decide +kernel
theorem dX12_liars_10 : decode cX12_liars 10 = .ok (.ifCond .eq 21, 3) := by decide +kernel
theorem dX12_liars_13 : decode cX12_liars 13 = .ok (.iload_n 2, 1) := by decide +kernel
theorem dX12_liars_14 : decode cX12_liars 14 = .ok (.invokestatic 67, 3) := by decide +kernel
theorem dX12_liars_17 : decode cX12_liars 17 = .ok (.ifCond .eq 14, 3) := by decide +kernel
theorem dX12_liars_20 : decode cX12_liars 20 = .ok (.iload 4, 2) := by decide +kernel
theorem dX12_liars_22 : decode cX12_liars 22 = .ok (.i2l, 1) := by decide +kernel
theorem dX12_liars_23 : decode cX12_liars 23 = .ok (.lconst 0, 1) := by decide +kernel
theorem dX12_liars_24 : decode cX12_liars 24 = .ok (.lconst 1, 1) := by decide +kernel
theorem dX12_liars_25 : decode cX12_liars 25 = .ok (.invokestatic 63, 3) := by decide +kernel
theorem dX12_liars_28 : decode cX12_liars 28 = .ok (.ifCond .ne 6, 3) := by decide +kernel
theorem dX12_liars_31 : decode cX12_liars 31 = .ok (.ldc 73, 2) := by decide +kernel
theorem dX12_liars_33 : decode cX12_liars 33 = .ok (.ireturn, 1) := by decide +kernel
theorem dX12_liars_34 : decode cX12_liars 34 = .ok (.aload_n 0, 1) := by decide +kernel
theorem dX12_liars_35 : decode cX12_liars 35 = .ok (.iload_n 2, 1) := by decide +kernel
theorem dX12_liars_36 : decode cX12_liars 36 = .ok (.iload_n 3, 1) := by decide +kernel
theorem dX12_liars_37 : decode cX12_liars 37 = .ok (.iconst 3, 1) := by decide +kernel
theorem dX12_liars_38 : decode cX12_liars 38 = .ok (.invokevirtual 204, 3) := by decide +kernel
theorem dX12_liars_41 : decode cX12_liars 41 = .ok (.istore 5, 2) := by decide +kernel
theorem dX12_liars_43 : decode cX12_liars 43 = .ok (.iload 5, 2) := by decide +kernel
theorem dX12_liars_45 : decode cX12_liars 45 = .ok (.ifCond .ge 6, 3) := by decide +kernel
theorem dX12_liars_48 : decode cX12_liars 48 = .ok (.iload 5, 2) := by decide +kernel
theorem dX12_liars_50 : decode cX12_liars 50 = .ok (.ireturn, 1) := by decide +kernel
theorem dX12_liars_51 : decode cX12_liars 51 = .ok (.bipush 40, 2) := by decide +kernel
theorem dX12_liars_53 : decode cX12_liars 53 = .ok (.iload_n 2, 1) := by decide +kernel
theorem dX12_liars_54 : decode cX12_liars 54 = .ok (.imul, 1) := by decide +kernel
theorem dX12_liars_55 : decode cX12_liars 55 = .ok (.iload_n 3, 1) := by decide +kernel
theorem dX12_liars_56 : decode cX12_liars 56 = .ok (.iadd, 1) := by decide +kernel
theorem dX12_liars_57 : decode cX12_liars 57 = .ok (.istore 6, 2) := by decide +kernel
theorem dX12_liars_59 : decode cX12_liars 59 = .ok (.iload 4, 2) := by decide +kernel
theorem dX12_liars_61 : decode cX12_liars 61 = .ok (.ifCond .ne 13, 3) := by decide +kernel
theorem dX12_liars_64 : decode cX12_liars 64 = .ok (.aload_n 0, 1) := by decide +kernel
theorem dX12_liars_65 : decode cX12_liars 65 = .ok (.iload_n 1, 1) := by decide +kernel
theorem dX12_liars_66 : decode cX12_liars 66 = .ok (.iload 6, 2) := by decide +kernel
theorem dX12_liars_68 : decode cX12_liars 68 = .ok (.ldc 96, 2) := by decide +kernel
theorem dX12_liars_70 : decode cX12_liars 70 = .ok (.invokevirtual 208, 3) := by decide +kernel
theorem dX12_liars_73 : decode cX12_liars 73 = .ok (.ireturn, 1) := by decide +kernel
theorem dX12_liars_74 : decode cX12_liars 74 = .ok (.ldc 96, 2) := by decide +kernel
theorem dX12_liars_76 : decode cX12_liars 76 = .ok (.istore 7, 2) := by decide +kernel
theorem dX12_liars_78 : decode cX12_liars 78 = .ok (.iconst 0, 1) := by decide +kernel
theorem dX12_liars_79 : decode cX12_liars 79 = .ok (.istore 8, 2) := by decide +kernel
theorem dX12_liars_81 : decode cX12_liars 81 = .ok (.iload 8, 2) := by decide +kernel
theorem dX12_liars_83 : decode cX12_liars 83 = .ok (.iconst 1, 1) := by decide +kernel
theorem dX12_liars_84 : decode cX12_liars 84 = .ok (.aload_n 0, 1) := by decide +kernel
theorem dX12_liars_85 : decode cX12_liars 85 = .ok (.getfield 19, 3) := by decide +kernel
theorem dX12_liars_88 : decode cX12_liars 88 = .ok (.iconst 3, 1) := by decide +kernel
theorem dX12_liars_89 : decode cX12_liars 89 = .ok (.iaload, 1) := by decide +kernel
theorem dX12_liars_90 : decode cX12_liars 90 = .ok (.ishl, 1) := by decide +kernel
theorem dX12_liars_91 : decode cX12_liars 91 = .ok (.if_icmp .ge 50, 3) := by decide +kernel
theorem dX12_liars_94 : decode cX12_liars 94 = .ok (.aload_n 0, 1) := by decide +kernel
theorem dX12_liars_95 : decode cX12_liars 95 = .ok (.iload_n 1, 1) := by decide +kernel
theorem dX12_liars_96 : decode cX12_liars 96 = .ok (.iload 6, 2) := by decide +kernel
theorem dX12_liars_98 : decode cX12_liars 98 = .ok (.iload 8, 2) := by decide +kernel
theorem dX12_liars_100 : decode cX12_liars 100 = .ok (.invokevirtual 200, 3) := by decide +kernel
theorem dX12_liars_103 : decode cX12_liars 103 = .ok (.ifCond .eq 28, 3) := by decide +kernel
theorem dX12_liars_106 : decode cX12_liars 106 = .ok (.iload 7, 2) := by decide +kernel
theorem dX12_liars_108 : decode cX12_liars 108 = .ok (.ldc 96, 2) := by decide +kernel
theorem dX12_liars_110 : decode cX12_liars 110 = .ok (.if_icmp .eq 16, 3) := by decide +kernel
theorem dX12_liars_113 : decode cX12_liars 113 = .ok (.iload 8, 2) := by decide +kernel
theorem dX12_liars_115 : decode cX12_liars 115 = .ok (.invokestatic 211, 3) := by decide +kernel
theorem dX12_liars_118 : decode cX12_liars 118 = .ok (.iload 7, 2) := by decide +kernel
theorem dX12_liars_120 : decode cX12_liars 120 = .ok (.invokestatic 211, 3) := by decide +kernel
theorem dX12_liars_123 : decode cX12_liars 123 = .ok (.if_icmp .ge 8, 3) := by decide +kernel
theorem dX12_liars_126 : decode cX12_liars 126 = .ok (.iload 8, 2) := by decide +kernel
theorem dX12_liars_128 : decode cX12_liars 128 = .ok (.goto 5, 3) := by decide +kernel
theorem dX12_liars_131 : decode cX12_liars 131 = .ok (.iload 7, 2) := by decide +kernel
theorem dX12_liars_133 : decode cX12_liars 133 = .ok (.istore 7, 2) := by decide +kernel
theorem dX12_liars_135 : decode cX12_liars 135 = .ok (.iinc 8 1, 3) := by decide +kernel
theorem dX12_liars_138 : decode cX12_liars 138 = .ok (.goto (-57), 3) := by decide +kernel
theorem dX12_liars_141 : decode cX12_liars 141 = .ok (.iload 7, 2) := by decide +kernel
theorem dX12_liars_143 : decode cX12_liars 143 = .ok (.ireturn, 1) := by decide +kernel
theorem dX12_common_0 : decode cX12_common 0 = .ok (.iload_n 0, 1) := by decide +kernel
theorem dX12_common_1 : decode cX12_common 1 = .ok (.istore_n 2, 1) := by decide +kernel
theorem dX12_common_2 : decode cX12_common 2 = .ok (.iload_n 1, 1) := by decide +kernel
theorem dX12_common_3 : decode cX12_common 3 = .ok (.istore_n 3, 1) := by decide +kernel
theorem dX12_common_4 : decode cX12_common 4 = .ok (.iload_n 3, 1) := by decide +kernel
theorem dX12_common_5 : decode cX12_common 5 = .ok (.ifCond .eq 16, 3) := by decide +kernel
theorem dX12_common_8 : decode cX12_common 8 = .ok (.iload_n 2, 1) := by decide +kernel
theorem dX12_common_9 : decode cX12_common 9 = .ok (.iload_n 3, 1) := by decide +kernel
theorem dX12_common_10 : decode cX12_common 10 = .ok (.irem, 1) := by decide +kernel
theorem dX12_common_11 : decode cX12_common 11 = .ok (.istore 4, 2) := by decide +kernel
theorem dX12_common_13 : decode cX12_common 13 = .ok (.iload_n 3, 1) := by decide +kernel
theorem dX12_common_14 : decode cX12_common 14 = .ok (.istore_n 2, 1) := by decide +kernel
theorem dX12_common_15 : decode cX12_common 15 = .ok (.iload 4, 2) := by decide +kernel
theorem dX12_common_17 : decode cX12_common 17 = .ok (.istore_n 3, 1) := by decide +kernel
theorem dX12_common_18 : decode cX12_common 18 = .ok (.goto (-14), 3) := by decide +kernel
theorem dX12_common_21 : decode cX12_common 21 = .ok (.iload_n 2, 1) := by decide +kernel
theorem dX12_common_22 : decode cX12_common 22 = .ok (.ireturn, 1) := by decide +kernel
theorem dX12_blame_0 : decode cX12_blame 0 = .ok (.aload_n 0, 1) := by decide +kernel
theorem dX12_blame_1 : decode cX12_blame 1 = .ok (.iconst 0, 1) := by decide +kernel
theorem dX12_blame_2 : decode cX12_blame 2 = .ok (.putfield 53, 3) := by decide +kernel
theorem dX12_blame_5 : decode cX12_blame 5 = .ok (.aload_n 0, 1) := by decide +kernel
theorem dX12_blame_6 : decode cX12_blame 6 = .ok (.iload_n 1, 1) := by decide +kernel
theorem dX12_blame_7 : decode cX12_blame 7 = .ok (.invokevirtual 161, 3) := by decide +kernel
theorem dX12_blame_10 : decode cX12_blame 10 = .ok (.ifCond .eq 29, 3) := by decide +kernel
theorem dX12_blame_13 : decode cX12_blame 13 = .ok (.aload_n 0, 1) := by decide +kernel
theorem dX12_blame_14 : decode cX12_blame 14 = .ok (.iload_n 2, 1) := by decide +kernel
theorem dX12_blame_15 : decode cX12_blame 15 = .ok (.invokevirtual 158, 3) := by decide +kernel
theorem dX12_blame_18 : decode cX12_blame 18 = .ok (.ifCond .eq 21, 3) := by decide +kernel
theorem dX12_blame_21 : decode cX12_blame 21 = .ok (.iload_n 3, 1) := by decide +kernel
theorem dX12_blame_22 : decode cX12_blame 22 = .ok (.invokestatic 67, 3) := by decide +kernel
theorem dX12_blame_25 : decode cX12_blame 25 = .ok (.ifCond .eq 14, 3) := by decide +kernel
theorem dX12_blame_28 : decode cX12_blame 28 = .ok (.iload 5, 2) := by decide +kernel
theorem dX12_blame_30 : decode cX12_blame 30 = .ok (.i2l, 1) := by decide +kernel
theorem dX12_blame_31 : decode cX12_blame 31 = .ok (.lconst 0, 1) := by decide +kernel
theorem dX12_blame_32 : decode cX12_blame 32 = .ok (.lconst 1, 1) := by decide +kernel
theorem dX12_blame_33 : decode cX12_blame 33 = .ok (.invokestatic 63, 3) := by decide +kernel
theorem dX12_blame_36 : decode cX12_blame 36 = .ok (.ifCond .ne 6, 3) := by decide +kernel
theorem dX12_blame_39 : decode cX12_blame 39 = .ok (.ldc 73, 2) := by decide +kernel
theorem dX12_blame_41 : decode cX12_blame 41 = .ok (.ireturn, 1) := by decide +kernel
theorem dX12_blame_42 : decode cX12_blame 42 = .ok (.aload_n 0, 1) := by decide +kernel
theorem dX12_blame_43 : decode cX12_blame 43 = .ok (.iload_n 3, 1) := by decide +kernel
theorem dX12_blame_44 : decode cX12_blame 44 = .ok (.iload 4, 2) := by decide +kernel
theorem dX12_blame_46 : decode cX12_blame 46 = .ok (.iconst 3, 1) := by decide +kernel
theorem dX12_blame_47 : decode cX12_blame 47 = .ok (.invokevirtual 204, 3) := by decide +kernel
theorem dX12_blame_50 : decode cX12_blame 50 = .ok (.istore 6, 2) := by decide +kernel
theorem dX12_blame_52 : decode cX12_blame 52 = .ok (.iload 6, 2) := by decide +kernel
theorem dX12_blame_54 : decode cX12_blame 54 = .ok (.ifCond .ge 6, 3) := by decide +kernel
theorem dX12_blame_57 : decode cX12_blame 57 = .ok (.iload 6, 2) := by decide +kernel
theorem dX12_blame_59 : decode cX12_blame 59 = .ok (.ireturn, 1) := by decide +kernel
theorem dX12_blame_60 : decode cX12_blame 60 = .ok (.aload_n 0, 1) := by decide +kernel
theorem dX12_blame_61 : decode cX12_blame 61 = .ok (.iload_n 1, 1) := by decide +kernel
theorem dX12_blame_62 : decode cX12_blame 62 = .ok (.bipush 40, 2) := by decide +kernel
theorem dX12_blame_64 : decode cX12_blame 64 = .ok (.iload_n 3, 1) := by decide +kernel
theorem dX12_blame_65 : decode cX12_blame 65 = .ok (.imul, 1) := by decide +kernel
theorem dX12_blame_66 : decode cX12_blame 66 = .ok (.iload 4, 2) := by decide +kernel
theorem dX12_blame_68 : decode cX12_blame 68 = .ok (.iadd, 1) := by decide +kernel
theorem dX12_blame_69 : decode cX12_blame 69 = .ok (.ldc 96, 2) := by decide +kernel
theorem dX12_blame_71 : decode cX12_blame 71 = .ok (.invokevirtual 208, 3) := by decide +kernel
theorem dX12_blame_74 : decode cX12_blame 74 = .ok (.istore 7, 2) := by decide +kernel
theorem dX12_blame_76 : decode cX12_blame 76 = .ok (.iload 7, 2) := by decide +kernel
theorem dX12_blame_78 : decode cX12_blame 78 = .ok (.ifCond .ne 6, 3) := by decide +kernel
theorem dX12_blame_81 : decode cX12_blame 81 = .ok (.ldc 96, 2) := by decide +kernel
theorem dX12_blame_83 : decode cX12_blame 83 = .ok (.ireturn, 1) := by decide +kernel
theorem dX12_blame_84 : decode cX12_blame 84 = .ok (.aload_n 0, 1) := by decide +kernel
theorem dX12_blame_85 : decode cX12_blame 85 = .ok (.iload_n 1, 1) := by decide +kernel
theorem dX12_blame_86 : decode cX12_blame 86 = .ok (.bipush 40, 2) := by decide +kernel
theorem dX12_blame_88 : decode cX12_blame 88 = .ok (.iload_n 3, 1) := by decide +kernel
theorem dX12_blame_89 : decode cX12_blame 89 = .ok (.imul, 1) := by decide +kernel
theorem dX12_blame_90 : decode cX12_blame 90 = .ok (.iload 4, 2) := by decide +kernel
theorem dX12_blame_92 : decode cX12_blame 92 = .ok (.iadd, 1) := by decide +kernel
theorem dX12_blame_93 : decode cX12_blame 93 = .ok (.iload_n 2, 1) := by decide +kernel
theorem dX12_blame_94 : decode cX12_blame 94 = .ok (.invokevirtual 208, 3) := by decide +kernel
theorem dX12_blame_97 : decode cX12_blame 97 = .ok (.istore 8, 2) := by decide +kernel
theorem dX12_blame_99 : decode cX12_blame 99 = .ok (.iload 5, 2) := by decide +kernel
theorem dX12_blame_101 : decode cX12_blame 101 = .ok (.ifCond .ne 8, 3) := by decide +kernel
theorem dX12_blame_104 : decode cX12_blame 104 = .ok (.iload 8, 2) := by decide +kernel
theorem dX12_blame_106 : decode cX12_blame 106 = .ok (.goto 5, 3) := by decide +kernel
theorem dX12_blame_109 : decode cX12_blame 109 = .ok (.iload 7, 2) := by decide +kernel
theorem dX12_blame_111 : decode cX12_blame 111 = .ok (.iload 8, 2) := by decide +kernel
theorem dX12_blame_113 : decode cX12_blame 113 = .ok (.iload 7, 2) := by decide +kernel
theorem dX12_blame_115 : decode cX12_blame 115 = .ok (.invokestatic 214, 3) := by decide +kernel
theorem dX12_blame_118 : decode cX12_blame 118 = .ok (.idiv, 1) := by decide +kernel
theorem dX12_blame_119 : decode cX12_blame 119 = .ok (.ireturn, 1) := by decide +kernel
theorem dX12_toldFor_0 : decode cX12_toldFor 0 = .ok (.bipush (-99), 2) := by decide +kernel
theorem dX12_toldFor_2 : decode cX12_toldFor 2 = .ok (.istore_n 3, 1) := by decide +kernel
theorem dX12_toldFor_3 : decode cX12_toldFor 3 = .ok (.iload_n 3, 1) := by decide +kernel
theorem dX12_toldFor_4 : decode cX12_toldFor 4 = .ok (.bipush 99, 2) := by decide +kernel
theorem dX12_toldFor_6 : decode cX12_toldFor 6 = .ok (.if_icmp .gt 21, 3) := by decide +kernel
theorem dX12_toldFor_9 : decode cX12_toldFor 9 = .ok (.aload_n 0, 1) := by decide +kernel
theorem dX12_toldFor_10 : decode cX12_toldFor 10 = .ok (.iload_n 1, 1) := by decide +kernel
theorem dX12_toldFor_11 : decode cX12_toldFor 11 = .ok (.iload_n 3, 1) := by decide +kernel
theorem dX12_toldFor_12 : decode cX12_toldFor 12 = .ok (.invokevirtual 171, 3) := by decide +kernel
theorem dX12_toldFor_15 : decode cX12_toldFor 15 = .ok (.iload_n 2, 1) := by decide +kernel
theorem dX12_toldFor_16 : decode cX12_toldFor 16 = .ok (.if_icmp .ne 5, 3) := by decide +kernel
theorem dX12_toldFor_19 : decode cX12_toldFor 19 = .ok (.iload_n 3, 1) := by decide +kernel
theorem dX12_toldFor_20 : decode cX12_toldFor 20 = .ok (.ireturn, 1) := by decide +kernel
theorem dX12_toldFor_21 : decode cX12_toldFor 21 = .ok (.iinc 3 1, 3) := by decide +kernel
theorem dX12_toldFor_24 : decode cX12_toldFor 24 = .ok (.goto (-21), 3) := by decide +kernel
theorem dX12_toldFor_27 : decode cX12_toldFor 27 = .ok (.ldc 96, 2) := by decide +kernel
theorem dX12_toldFor_29 : decode cX12_toldFor 29 = .ok (.ireturn, 1) := by decide +kernel
theorem dX12_whoFor_0 : decode cX12_whoFor 0 = .ok (.ldc 96, 2) := by decide +kernel
theorem dX12_whoFor_2 : decode cX12_whoFor 2 = .ok (.istore_n 2, 1) := by decide +kernel
theorem dX12_whoFor_3 : decode cX12_whoFor 3 = .ok (.iconst 0, 1) := by decide +kernel
theorem dX12_whoFor_4 : decode cX12_whoFor 4 = .ok (.istore_n 3, 1) := by decide +kernel
theorem dX12_whoFor_5 : decode cX12_whoFor 5 = .ok (.iload_n 3, 1) := by decide +kernel
theorem dX12_whoFor_6 : decode cX12_whoFor 6 = .ok (.aload_n 0, 1) := by decide +kernel
theorem dX12_whoFor_7 : decode cX12_whoFor 7 = .ok (.getfield 19, 3) := by decide +kernel
theorem dX12_whoFor_10 : decode cX12_whoFor 10 = .ok (.iconst 3, 1) := by decide +kernel
theorem dX12_whoFor_11 : decode cX12_whoFor 11 = .ok (.iaload, 1) := by decide +kernel
theorem dX12_whoFor_12 : decode cX12_whoFor 12 = .ok (.if_icmp .ge 57, 3) := by decide +kernel
theorem dX12_whoFor_15 : decode cX12_whoFor 15 = .ok (.aload_n 0, 1) := by decide +kernel
theorem dX12_whoFor_16 : decode cX12_whoFor 16 = .ok (.iload_n 3, 1) := by decide +kernel
theorem dX12_whoFor_17 : decode cX12_whoFor 17 = .ok (.iload_n 1, 1) := by decide +kernel
theorem dX12_whoFor_18 : decode cX12_whoFor 18 = .ok (.invokevirtual 217, 3) := by decide +kernel
theorem dX12_whoFor_21 : decode cX12_whoFor 21 = .ok (.ldc 96, 2) := by decide +kernel
theorem dX12_whoFor_23 : decode cX12_whoFor 23 = .ok (.if_icmp .eq 7, 3) := by decide +kernel
theorem dX12_whoFor_26 : decode cX12_whoFor 26 = .ok (.iconst 1, 1) := by decide +kernel
theorem dX12_whoFor_27 : decode cX12_whoFor 27 = .ok (.goto 4, 3) := by decide +kernel
theorem dX12_whoFor_30 : decode cX12_whoFor 30 = .ok (.iconst 0, 1) := by decide +kernel
theorem dX12_whoFor_31 : decode cX12_whoFor 31 = .ok (.istore 4, 2) := by decide +kernel
theorem dX12_whoFor_33 : decode cX12_whoFor 33 = .ok (.iload 4, 2) := by decide +kernel
theorem dX12_whoFor_35 : decode cX12_whoFor 35 = .ok (.ifCond .eq 26, 3) := by decide +kernel
theorem dX12_whoFor_38 : decode cX12_whoFor 38 = .ok (.iload_n 2, 1) := by decide +kernel
theorem dX12_whoFor_39 : decode cX12_whoFor 39 = .ok (.ldc 96, 2) := by decide +kernel
theorem dX12_whoFor_41 : decode cX12_whoFor 41 = .ok (.if_icmp .eq 16, 3) := by decide +kernel
theorem dX12_whoFor_44 : decode cX12_whoFor 44 = .ok (.aload_n 0, 1) := by decide +kernel
theorem dX12_whoFor_45 : decode cX12_whoFor 45 = .ok (.iload_n 3, 1) := by decide +kernel
theorem dX12_whoFor_46 : decode cX12_whoFor 46 = .ok (.invokevirtual 220, 3) := by decide +kernel
theorem dX12_whoFor_49 : decode cX12_whoFor 49 = .ok (.aload_n 0, 1) := by decide +kernel
theorem dX12_whoFor_50 : decode cX12_whoFor 50 = .ok (.iload_n 2, 1) := by decide +kernel
theorem dX12_whoFor_51 : decode cX12_whoFor 51 = .ok (.invokevirtual 220, 3) := by decide +kernel
theorem dX12_whoFor_54 : decode cX12_whoFor 54 = .ok (.if_icmp .ge 7, 3) := by decide +kernel
theorem dX12_whoFor_57 : decode cX12_whoFor 57 = .ok (.iload_n 3, 1) := by decide +kernel
theorem dX12_whoFor_58 : decode cX12_whoFor 58 = .ok (.goto 4, 3) := by decide +kernel
theorem dX12_whoFor_61 : decode cX12_whoFor 61 = .ok (.iload_n 2, 1) := by decide +kernel
theorem dX12_whoFor_62 : decode cX12_whoFor 62 = .ok (.istore_n 2, 1) := by decide +kernel
theorem dX12_whoFor_63 : decode cX12_whoFor 63 = .ok (.iinc 3 1, 3) := by decide +kernel
theorem dX12_whoFor_66 : decode cX12_whoFor 66 = .ok (.goto (-61), 3) := by decide +kernel
theorem dX12_whoFor_69 : decode cX12_whoFor 69 = .ok (.iload_n 2, 1) := by decide +kernel
theorem dX12_whoFor_70 : decode cX12_whoFor 70 = .ok (.ireturn, 1) := by decide +kernel
theorem dX12_right_0 : decode cX12_right 0 = .ok (.aload_n 0, 1) := by decide +kernel
theorem dX12_right_1 : decode cX12_right 1 = .ok (.iconst 0, 1) := by decide +kernel
theorem dX12_right_2 : decode cX12_right 2 = .ok (.putfield 53, 3) := by decide +kernel
theorem dX12_right_5 : decode cX12_right 5 = .ok (.aload_n 0, 1) := by decide +kernel
theorem dX12_right_6 : decode cX12_right 6 = .ok (.iload_n 1, 1) := by decide +kernel
theorem dX12_right_7 : decode cX12_right 7 = .ok (.invokevirtual 161, 3) := by decide +kernel
theorem dX12_right_10 : decode cX12_right 10 = .ok (.ifCond .eq 15, 3) := by decide +kernel
theorem dX12_right_13 : decode cX12_right 13 = .ok (.iload_n 2, 1) := by decide +kernel
theorem dX12_right_14 : decode cX12_right 14 = .ok (.i2l, 1) := by decide +kernel
theorem dX12_right_15 : decode cX12_right 15 = .ok (.lconst 0, 1) := by decide +kernel
theorem dX12_right_16 : decode cX12_right 16 = .ok (.ldc2_w 223, 3) := by decide +kernel
theorem dX12_right_19 : decode cX12_right 19 = .ok (.invokestatic 63, 3) := by decide +kernel
theorem dX12_right_22 : decode cX12_right 22 = .ok (.ifCond .ne 6, 3) := by decide +kernel
theorem dX12_right_25 : decode cX12_right 25 = .ok (.ldc 73, 2) := by decide +kernel
theorem dX12_right_27 : decode cX12_right 27 = .ok (.ireturn, 1) := by decide +kernel
theorem dX12_right_28 : decode cX12_right 28 = .ok (.iconst 0, 1) := by decide +kernel
theorem dX12_right_29 : decode cX12_right 29 = .ok (.istore_n 3, 1) := by decide +kernel
theorem dX12_right_30 : decode cX12_right 30 = .ok (.iconst 0, 1) := by decide +kernel
theorem dX12_right_31 : decode cX12_right 31 = .ok (.istore 4, 2) := by decide +kernel
theorem dX12_right_33 : decode cX12_right 33 = .ok (.iload 4, 2) := by decide +kernel
theorem dX12_right_35 : decode cX12_right 35 = .ok (.iconst 3, 1) := by decide +kernel
theorem dX12_right_36 : decode cX12_right 36 = .ok (.if_icmp .ge 59, 3) := by decide +kernel
theorem dX12_right_39 : decode cX12_right 39 = .ok (.aload_n 0, 1) := by decide +kernel
theorem dX12_right_40 : decode cX12_right 40 = .ok (.iload_n 1, 1) := by decide +kernel
theorem dX12_right_41 : decode cX12_right 41 = .ok (.iload 4, 2) := by decide +kernel
theorem dX12_right_43 : decode cX12_right 43 = .ok (.invokevirtual 192, 3) := by decide +kernel
theorem dX12_right_46 : decode cX12_right 46 = .ok (.istore 5, 2) := by decide +kernel
theorem dX12_right_48 : decode cX12_right 48 = .ok (.aload_n 0, 1) := by decide +kernel
theorem dX12_right_49 : decode cX12_right 49 = .ok (.iload 5, 2) := by decide +kernel
theorem dX12_right_51 : decode cX12_right 51 = .ok (.invokevirtual 225, 3) := by decide +kernel
theorem dX12_right_54 : decode cX12_right 54 = .ok (.istore 6, 2) := by decide +kernel
theorem dX12_right_56 : decode cX12_right 56 = .ok (.iload 5, 2) := by decide +kernel
theorem dX12_right_58 : decode cX12_right 58 = .ok (.ifCond .eq 13, 3) := by decide +kernel
theorem dX12_right_61 : decode cX12_right 61 = .ok (.iload 6, 2) := by decide +kernel
theorem dX12_right_63 : decode cX12_right 63 = .ok (.ldc 96, 2) := by decide +kernel
theorem dX12_right_65 : decode cX12_right 65 = .ok (.if_icmp .ne 6, 3) := by decide +kernel
theorem dX12_right_68 : decode cX12_right 68 = .ok (.ldc 96, 2) := by decide +kernel
theorem dX12_right_70 : decode cX12_right 70 = .ok (.ireturn, 1) := by decide +kernel
theorem dX12_right_71 : decode cX12_right 71 = .ok (.iload_n 3, 1) := by decide +kernel
theorem dX12_right_72 : decode cX12_right 72 = .ok (.iload 5, 2) := by decide +kernel
theorem dX12_right_74 : decode cX12_right 74 = .ok (.ifCond .ne 7, 3) := by decide +kernel
theorem dX12_right_77 : decode cX12_right 77 = .ok (.iconst 0, 1) := by decide +kernel
theorem dX12_right_78 : decode cX12_right 78 = .ok (.goto 9, 3) := by decide +kernel
theorem dX12_right_81 : decode cX12_right 81 = .ok (.aload_n 0, 1) := by decide +kernel
theorem dX12_right_82 : decode cX12_right 82 = .ok (.iload 6, 2) := by decide +kernel
theorem dX12_right_84 : decode cX12_right 84 = .ok (.invokevirtual 220, 3) := by decide +kernel
theorem dX12_right_87 : decode cX12_right 87 = .ok (.iadd, 1) := by decide +kernel
theorem dX12_right_88 : decode cX12_right 88 = .ok (.istore_n 3, 1) := by decide +kernel
theorem dX12_right_89 : decode cX12_right 89 = .ok (.iinc 4 1, 3) := by decide +kernel
theorem dX12_right_92 : decode cX12_right 92 = .ok (.goto (-59), 3) := by decide +kernel
theorem dX12_right_95 : decode cX12_right 95 = .ok (.iload_n 2, 1) := by decide +kernel
theorem dX12_right_96 : decode cX12_right 96 = .ok (.ifCond .ne 5, 3) := by decide +kernel
theorem dX12_right_99 : decode cX12_right 99 = .ok (.iload_n 3, 1) := by decide +kernel
theorem dX12_right_100 : decode cX12_right 100 = .ok (.ireturn, 1) := by decide +kernel
theorem dX12_right_101 : decode cX12_right 101 = .ok (.aload_n 0, 1) := by decide +kernel
theorem dX12_right_102 : decode cX12_right 102 = .ok (.iload_n 1, 1) := by decide +kernel
theorem dX12_right_103 : decode cX12_right 103 = .ok (.iload_n 2, 1) := by decide +kernel
theorem dX12_right_104 : decode cX12_right 104 = .ok (.iconst 1, 1) := by decide +kernel
theorem dX12_right_105 : decode cX12_right 105 = .ok (.isub, 1) := by decide +kernel
theorem dX12_right_106 : decode cX12_right 106 = .ok (.iconst 3, 1) := by decide +kernel
theorem dX12_right_107 : decode cX12_right 107 = .ok (.irem, 1) := by decide +kernel
theorem dX12_right_108 : decode cX12_right 108 = .ok (.invokevirtual 192, 3) := by decide +kernel
theorem dX12_right_111 : decode cX12_right 111 = .ok (.istore 4, 2) := by decide +kernel
theorem dX12_right_113 : decode cX12_right 113 = .ok (.iload 4, 2) := by decide +kernel
theorem dX12_right_115 : decode cX12_right 115 = .ok (.ifCond .ne 6, 3) := by decide +kernel
theorem dX12_right_118 : decode cX12_right 118 = .ok (.ldc 96, 2) := by decide +kernel
theorem dX12_right_120 : decode cX12_right 120 = .ok (.ireturn, 1) := by decide +kernel
theorem dX12_right_121 : decode cX12_right 121 = .ok (.iload_n 2, 1) := by decide +kernel
theorem dX12_right_122 : decode cX12_right 122 = .ok (.iconst 4, 1) := by decide +kernel
theorem dX12_right_123 : decode cX12_right 123 = .ok (.if_icmp .ge 12, 3) := by decide +kernel
theorem dX12_right_126 : decode cX12_right 126 = .ok (.aload_n 0, 1) := by decide +kernel
theorem dX12_right_127 : decode cX12_right 127 = .ok (.iload 4, 2) := by decide +kernel
theorem dX12_right_129 : decode cX12_right 129 = .ok (.invokevirtual 225, 3) := by decide +kernel
theorem dX12_right_132 : decode cX12_right 132 = .ok (.goto 15, 3) := by decide +kernel
theorem dX12_right_135 : decode cX12_right 135 = .ok (.aload_n 0, 1) := by decide +kernel
theorem dX12_right_136 : decode cX12_right 136 = .ok (.aload_n 0, 1) := by decide +kernel
theorem dX12_right_137 : decode cX12_right 137 = .ok (.iload 4, 2) := by decide +kernel
theorem dX12_right_139 : decode cX12_right 139 = .ok (.invokevirtual 225, 3) := by decide +kernel
theorem dX12_right_142 : decode cX12_right 142 = .ok (.iload 4, 2) := by decide +kernel
theorem dX12_right_144 : decode cX12_right 144 = .ok (.invokevirtual 217, 3) := by decide +kernel
theorem dX12_right_147 : decode cX12_right 147 = .ok (.ireturn, 1) := by decide +kernel
theorem dX12_most_0 : decode cX12_most 0 = .ok (.aload_n 0, 1) := by decide +kernel
theorem dX12_most_1 : decode cX12_most 1 = .ok (.iconst 0, 1) := by decide +kernel
theorem dX12_most_2 : decode cX12_most 2 = .ok (.putfield 53, 3) := by decide +kernel
theorem dX12_most_5 : decode cX12_most 5 = .ok (.aload_n 0, 1) := by decide +kernel
theorem dX12_most_6 : decode cX12_most 6 = .ok (.iload_n 1, 1) := by decide +kernel
theorem dX12_most_7 : decode cX12_most 7 = .ok (.invokevirtual 161, 3) := by decide +kernel
theorem dX12_most_10 : decode cX12_most 10 = .ok (.ifCond .eq 20, 3) := by decide +kernel
theorem dX12_most_13 : decode cX12_most 13 = .ok (.iload_n 2, 1) := by decide +kernel
theorem dX12_most_14 : decode cX12_most 14 = .ok (.invokestatic 164, 3) := by decide +kernel
theorem dX12_most_17 : decode cX12_most 17 = .ok (.ifCond .eq 13, 3) := by decide +kernel
theorem dX12_most_20 : decode cX12_most 20 = .ok (.iload_n 3, 1) := by decide +kernel
theorem dX12_most_21 : decode cX12_most 21 = .ok (.i2l, 1) := by decide +kernel
theorem dX12_most_22 : decode cX12_most 22 = .ok (.lconst 0, 1) := by decide +kernel
theorem dX12_most_23 : decode cX12_most 23 = .ok (.lconst 1, 1) := by decide +kernel
theorem dX12_most_24 : decode cX12_most 24 = .ok (.invokestatic 63, 3) := by decide +kernel
theorem dX12_most_27 : decode cX12_most 27 = .ok (.ifCond .ne 6, 3) := by decide +kernel
theorem dX12_most_30 : decode cX12_most 30 = .ok (.ldc 73, 2) := by decide +kernel
theorem dX12_most_32 : decode cX12_most 32 = .ok (.ireturn, 1) := by decide +kernel
theorem dX12_most_33 : decode cX12_most 33 = .ok (.ldc 96, 2) := by decide +kernel
theorem dX12_most_35 : decode cX12_most 35 = .ok (.istore 4, 2) := by decide +kernel
theorem dX12_most_37 : decode cX12_most 37 = .ok (.iconst 0, 1) := by decide +kernel
theorem dX12_most_38 : decode cX12_most 38 = .ok (.istore 5, 2) := by decide +kernel
theorem dX12_most_40 : decode cX12_most 40 = .ok (.iconst 0, 1) := by decide +kernel
theorem dX12_most_41 : decode cX12_most 41 = .ok (.istore 6, 2) := by decide +kernel
theorem dX12_most_43 : decode cX12_most 43 = .ok (.iload 6, 2) := by decide +kernel
theorem dX12_most_45 : decode cX12_most 45 = .ok (.aload_n 0, 1) := by decide +kernel
theorem dX12_most_46 : decode cX12_most 46 = .ok (.getfield 19, 3) := by decide +kernel
theorem dX12_most_49 : decode cX12_most 49 = .ok (.iconst 3, 1) := by decide +kernel
theorem dX12_most_50 : decode cX12_most 50 = .ok (.iaload, 1) := by decide +kernel
theorem dX12_most_51 : decode cX12_most 51 = .ok (.if_icmp .ge 157, 3) := by decide +kernel
theorem dX12_most_54 : decode cX12_most 54 = .ok (.iconst 0, 1) := by decide +kernel
theorem dX12_most_55 : decode cX12_most 55 = .ok (.istore 7, 2) := by decide +kernel
theorem dX12_most_57 : decode cX12_most 57 = .ok (.iconst 0, 1) := by decide +kernel
theorem dX12_most_58 : decode cX12_most 58 = .ok (.istore 8, 2) := by decide +kernel
theorem dX12_most_60 : decode cX12_most 60 = .ok (.iconst 0, 1) := by decide +kernel
theorem dX12_most_61 : decode cX12_most 61 = .ok (.istore 9, 2) := by decide +kernel
theorem dX12_most_63 : decode cX12_most 63 = .ok (.iload 9, 2) := by decide +kernel
theorem dX12_most_65 : decode cX12_most 65 = .ok (.aload_n 0, 1) := by decide +kernel
theorem dX12_most_66 : decode cX12_most 66 = .ok (.getfield 19, 3) := by decide +kernel
theorem dX12_most_69 : decode cX12_most 69 = .ok (.iconst 4, 1) := by decide +kernel
theorem dX12_most_70 : decode cX12_most 70 = .ok (.iaload, 1) := by decide +kernel
theorem dX12_most_71 : decode cX12_most 71 = .ok (.if_icmp .ge 98, 3) := by decide +kernel
theorem dX12_most_74 : decode cX12_most 74 = .ok (.aload_n 0, 1) := by decide +kernel
theorem dX12_most_75 : decode cX12_most 75 = .ok (.iload 9, 2) := by decide +kernel
theorem dX12_most_77 : decode cX12_most 77 = .ok (.iconst 0, 1) := by decide +kernel
theorem dX12_most_78 : decode cX12_most 78 = .ok (.invokevirtual 197, 3) := by decide +kernel
theorem dX12_most_81 : decode cX12_most 81 = .ok (.ifCond .ne 41, 3) := by decide +kernel
theorem dX12_most_84 : decode cX12_most 84 = .ok (.aload_n 0, 1) := by decide +kernel
theorem dX12_most_85 : decode cX12_most 85 = .ok (.iload 9, 2) := by decide +kernel
theorem dX12_most_87 : decode cX12_most 87 = .ok (.iconst 1, 1) := by decide +kernel
theorem dX12_most_88 : decode cX12_most 88 = .ok (.invokevirtual 197, 3) := by decide +kernel
theorem dX12_most_91 : decode cX12_most 91 = .ok (.iload 6, 2) := by decide +kernel
theorem dX12_most_93 : decode cX12_most 93 = .ok (.if_icmp .ne 29, 3) := by decide +kernel
theorem dX12_most_96 : decode cX12_most 96 = .ok (.aload_n 0, 1) := by decide +kernel
theorem dX12_most_97 : decode cX12_most 97 = .ok (.iload 9, 2) := by decide +kernel
theorem dX12_most_99 : decode cX12_most 99 = .ok (.iconst 2, 1) := by decide +kernel
theorem dX12_most_100 : decode cX12_most 100 = .ok (.invokevirtual 197, 3) := by decide +kernel
theorem dX12_most_103 : decode cX12_most 103 = .ok (.iload_n 1, 1) := by decide +kernel
theorem dX12_most_104 : decode cX12_most 104 = .ok (.if_icmp .ne 18, 3) := by decide +kernel
theorem dX12_most_107 : decode cX12_most 107 = .ok (.aload_n 0, 1) := by decide +kernel
theorem dX12_most_108 : decode cX12_most 108 = .ok (.iload 9, 2) := by decide +kernel
theorem dX12_most_110 : decode cX12_most 110 = .ok (.iconst 3, 1) := by decide +kernel
theorem dX12_most_111 : decode cX12_most 111 = .ok (.invokevirtual 197, 3) := by decide +kernel
theorem dX12_most_114 : decode cX12_most 114 = .ok (.iload_n 2, 1) := by decide +kernel
theorem dX12_most_115 : decode cX12_most 115 = .ok (.if_icmp .ne 7, 3) := by decide +kernel
theorem dX12_most_118 : decode cX12_most 118 = .ok (.iconst 1, 1) := by decide +kernel
theorem dX12_most_119 : decode cX12_most 119 = .ok (.goto 4, 3) := by decide +kernel
theorem dX12_most_122 : decode cX12_most 122 = .ok (.iconst 0, 1) := by decide +kernel
theorem dX12_most_123 : decode cX12_most 123 = .ok (.istore 10, 2) := by decide +kernel
theorem dX12_most_125 : decode cX12_most 125 = .ok (.iload 8, 2) := by decide +kernel
theorem dX12_most_127 : decode cX12_most 127 = .ok (.ifCond .ne 8, 3) := by decide +kernel
theorem dX12_most_130 : decode cX12_most 130 = .ok (.iload 10, 2) := by decide +kernel
theorem dX12_most_132 : decode cX12_most 132 = .ok (.ifCond .eq 7, 3) := by decide +kernel
theorem dX12_most_135 : decode cX12_most 135 = .ok (.iconst 1, 1) := by decide +kernel
theorem dX12_most_136 : decode cX12_most 136 = .ok (.goto 4, 3) := by decide +kernel
theorem dX12_most_139 : decode cX12_most 139 = .ok (.iconst 0, 1) := by decide +kernel
theorem dX12_most_140 : decode cX12_most 140 = .ok (.istore 8, 2) := by decide +kernel
theorem dX12_most_142 : decode cX12_most 142 = .ok (.iload 7, 2) := by decide +kernel
theorem dX12_most_144 : decode cX12_most 144 = .ok (.iload 10, 2) := by decide +kernel
theorem dX12_most_146 : decode cX12_most 146 = .ok (.ifCond .eq 13, 3) := by decide +kernel
theorem dX12_most_149 : decode cX12_most 149 = .ok (.aload_n 0, 1) := by decide +kernel
theorem dX12_most_150 : decode cX12_most 150 = .ok (.iload 9, 2) := by decide +kernel
theorem dX12_most_152 : decode cX12_most 152 = .ok (.iconst 5, 1) := by decide +kernel
theorem dX12_most_153 : decode cX12_most 153 = .ok (.invokevirtual 197, 3) := by decide +kernel
theorem dX12_most_156 : decode cX12_most 156 = .ok (.goto 4, 3) := by decide +kernel
theorem dX12_most_159 : decode cX12_most 159 = .ok (.iconst 0, 1) := by decide +kernel
theorem dX12_most_160 : decode cX12_most 160 = .ok (.iadd, 1) := by decide +kernel
theorem dX12_most_161 : decode cX12_most 161 = .ok (.istore 7, 2) := by decide +kernel
theorem dX12_most_163 : decode cX12_most 163 = .ok (.iinc 9 1, 3) := by decide +kernel
theorem dX12_most_166 : decode cX12_most 166 = .ok (.goto (-103), 3) := by decide +kernel
theorem dX12_most_169 : decode cX12_most 169 = .ok (.iload 8, 2) := by decide +kernel
theorem dX12_most_171 : decode cX12_most 171 = .ok (.ifCond .eq 31, 3) := by decide +kernel
theorem dX12_most_174 : decode cX12_most 174 = .ok (.iload 4, 2) := by decide +kernel
theorem dX12_most_176 : decode cX12_most 176 = .ok (.ldc 96, 2) := by decide +kernel
theorem dX12_most_178 : decode cX12_most 178 = .ok (.if_icmp .eq 16, 3) := by decide +kernel
theorem dX12_most_181 : decode cX12_most 181 = .ok (.iload 7, 2) := by decide +kernel
theorem dX12_most_183 : decode cX12_most 183 = .ok (.iload 7, 2) := by decide +kernel
theorem dX12_most_185 : decode cX12_most 185 = .ok (.imul, 1) := by decide +kernel
theorem dX12_most_186 : decode cX12_most 186 = .ok (.iload 5, 2) := by decide +kernel
theorem dX12_most_188 : decode cX12_most 188 = .ok (.iload 5, 2) := by decide +kernel
theorem dX12_most_190 : decode cX12_most 190 = .ok (.imul, 1) := by decide +kernel
theorem dX12_most_191 : decode cX12_most 191 = .ok (.if_icmp .le 11, 3) := by decide +kernel
theorem dX12_most_194 : decode cX12_most 194 = .ok (.iload 6, 2) := by decide +kernel
theorem dX12_most_196 : decode cX12_most 196 = .ok (.istore 4, 2) := by decide +kernel
theorem dX12_most_198 : decode cX12_most 198 = .ok (.iload 7, 2) := by decide +kernel
theorem dX12_most_200 : decode cX12_most 200 = .ok (.istore 5, 2) := by decide +kernel
theorem dX12_most_202 : decode cX12_most 202 = .ok (.iinc 6 1, 3) := by decide +kernel
theorem dX12_most_205 : decode cX12_most 205 = .ok (.goto (-162), 3) := by decide +kernel
theorem dX12_most_208 : decode cX12_most 208 = .ok (.iload 4, 2) := by decide +kernel
theorem dX12_most_210 : decode cX12_most 210 = .ok (.ldc 96, 2) := by decide +kernel
theorem dX12_most_212 : decode cX12_most 212 = .ok (.if_icmp .eq 7, 3) := by decide +kernel
theorem dX12_most_215 : decode cX12_most 215 = .ok (.iload_n 3, 1) := by decide +kernel
theorem dX12_most_216 : decode cX12_most 216 = .ok (.ifCond .ne 8, 3) := by decide +kernel
theorem dX12_most_219 : decode cX12_most 219 = .ok (.iload 4, 2) := by decide +kernel
theorem dX12_most_221 : decode cX12_most 221 = .ok (.goto 5, 3) := by decide +kernel
theorem dX12_most_224 : decode cX12_most 224 = .ok (.iload 5, 2) := by decide +kernel
theorem dX12_most_226 : decode cX12_most 226 = .ok (.ireturn, 1) := by decide +kernel
theorem dX12_swaps_0 : decode cX12_swaps 0 = .ok (.aload_n 0, 1) := by decide +kernel
theorem dX12_swaps_1 : decode cX12_swaps 1 = .ok (.iconst 0, 1) := by decide +kernel
theorem dX12_swaps_2 : decode cX12_swaps 2 = .ok (.putfield 53, 3) := by decide +kernel
theorem dX12_swaps_5 : decode cX12_swaps 5 = .ok (.aload_n 0, 1) := by decide +kernel
theorem dX12_swaps_6 : decode cX12_swaps 6 = .ok (.invokevirtual 185, 3) := by decide +kernel
theorem dX12_swaps_9 : decode cX12_swaps 9 = .ok (.ifCond .ne 6, 3) := by decide +kernel
theorem dX12_swaps_12 : decode cX12_swaps 12 = .ok (.ldc 188, 2) := by decide +kernel
theorem dX12_swaps_14 : decode cX12_swaps 14 = .ok (.ireturn, 1) := by decide +kernel
theorem dX12_swaps_15 : decode cX12_swaps 15 = .ok (.iload_n 1, 1) := by decide +kernel
theorem dX12_swaps_16 : decode cX12_swaps 16 = .ok (.invokestatic 67, 3) := by decide +kernel
theorem dX12_swaps_19 : decode cX12_swaps 19 = .ok (.ifCond .eq 13, 3) := by decide +kernel
theorem dX12_swaps_22 : decode cX12_swaps 22 = .ok (.iload_n 3, 1) := by decide +kernel
theorem dX12_swaps_23 : decode cX12_swaps 23 = .ok (.i2l, 1) := by decide +kernel
theorem dX12_swaps_24 : decode cX12_swaps 24 = .ok (.lconst 0, 1) := by decide +kernel
theorem dX12_swaps_25 : decode cX12_swaps 25 = .ok (.lconst 1, 1) := by decide +kernel
theorem dX12_swaps_26 : decode cX12_swaps 26 = .ok (.invokestatic 63, 3) := by decide +kernel
theorem dX12_swaps_29 : decode cX12_swaps 29 = .ok (.ifCond .ne 6, 3) := by decide +kernel
theorem dX12_swaps_32 : decode cX12_swaps 32 = .ok (.ldc 73, 2) := by decide +kernel
theorem dX12_swaps_34 : decode cX12_swaps 34 = .ok (.ireturn, 1) := by decide +kernel
theorem dX12_swaps_35 : decode cX12_swaps 35 = .ok (.aload_n 0, 1) := by decide +kernel
theorem dX12_swaps_36 : decode cX12_swaps 36 = .ok (.iload_n 1, 1) := by decide +kernel
theorem dX12_swaps_37 : decode cX12_swaps 37 = .ok (.iload_n 2, 1) := by decide +kernel
theorem dX12_swaps_38 : decode cX12_swaps 38 = .ok (.iconst 3, 1) := by decide +kernel
theorem dX12_swaps_39 : decode cX12_swaps 39 = .ok (.aload_n 0, 1) := by decide +kernel
theorem dX12_swaps_40 : decode cX12_swaps 40 = .ok (.getfield 19, 3) := by decide +kernel
theorem dX12_swaps_43 : decode cX12_swaps 43 = .ok (.iconst 2, 1) := by decide +kernel
theorem dX12_swaps_44 : decode cX12_swaps 44 = .ok (.iaload, 1) := by decide +kernel
theorem dX12_swaps_45 : decode cX12_swaps 45 = .ok (.imul, 1) := by decide +kernel
theorem dX12_swaps_46 : decode cX12_swaps 46 = .ok (.invokevirtual 204, 3) := by decide +kernel
theorem dX12_swaps_49 : decode cX12_swaps 49 = .ok (.istore 4, 2) := by decide +kernel
theorem dX12_swaps_51 : decode cX12_swaps 51 = .ok (.iload 4, 2) := by decide +kernel
theorem dX12_swaps_53 : decode cX12_swaps 53 = .ok (.ifCond .ge 6, 3) := by decide +kernel
theorem dX12_swaps_56 : decode cX12_swaps 56 = .ok (.iload 4, 2) := by decide +kernel
theorem dX12_swaps_58 : decode cX12_swaps 58 = .ok (.ireturn, 1) := by decide +kernel
theorem dX12_swaps_59 : decode cX12_swaps 59 = .ok (.iconst 0, 1) := by decide +kernel
theorem dX12_swaps_60 : decode cX12_swaps 60 = .ok (.istore 5, 2) := by decide +kernel
theorem dX12_swaps_62 : decode cX12_swaps 62 = .ok (.ldc 96, 2) := by decide +kernel
theorem dX12_swaps_64 : decode cX12_swaps 64 = .ok (.istore 6, 2) := by decide +kernel
theorem dX12_swaps_66 : decode cX12_swaps 66 = .ok (.iconst 0, 1) := by decide +kernel
theorem dX12_swaps_67 : decode cX12_swaps 67 = .ok (.istore 7, 2) := by decide +kernel
theorem dX12_swaps_69 : decode cX12_swaps 69 = .ok (.iload 7, 2) := by decide +kernel
theorem dX12_swaps_71 : decode cX12_swaps 71 = .ok (.aload_n 0, 1) := by decide +kernel
theorem dX12_swaps_72 : decode cX12_swaps 72 = .ok (.getfield 19, 3) := by decide +kernel
theorem dX12_swaps_75 : decode cX12_swaps 75 = .ok (.iconst 2, 1) := by decide +kernel
theorem dX12_swaps_76 : decode cX12_swaps 76 = .ok (.iaload, 1) := by decide +kernel
theorem dX12_swaps_77 : decode cX12_swaps 77 = .ok (.if_icmp .ge 182, 3) := by decide +kernel
theorem dX12_swaps_80 : decode cX12_swaps 80 = .ok (.iload 7, 2) := by decide +kernel
theorem dX12_swaps_82 : decode cX12_swaps 82 = .ok (.iconst 1, 1) := by decide +kernel
theorem dX12_swaps_83 : decode cX12_swaps 83 = .ok (.iadd, 1) := by decide +kernel
theorem dX12_swaps_84 : decode cX12_swaps 84 = .ok (.istore 8, 2) := by decide +kernel
theorem dX12_swaps_86 : decode cX12_swaps 86 = .ok (.iload 8, 2) := by decide +kernel
theorem dX12_swaps_88 : decode cX12_swaps 88 = .ok (.aload_n 0, 1) := by decide +kernel
theorem dX12_swaps_89 : decode cX12_swaps 89 = .ok (.getfield 19, 3) := by decide +kernel
theorem dX12_swaps_92 : decode cX12_swaps 92 = .ok (.iconst 2, 1) := by decide +kernel
theorem dX12_swaps_93 : decode cX12_swaps 93 = .ok (.iaload, 1) := by decide +kernel
theorem dX12_swaps_94 : decode cX12_swaps 94 = .ok (.if_icmp .ge 159, 3) := by decide +kernel
theorem dX12_swaps_97 : decode cX12_swaps 97 = .ok (.iconst 1, 1) := by decide +kernel
theorem dX12_swaps_98 : decode cX12_swaps 98 = .ok (.istore 9, 2) := by decide +kernel
theorem dX12_swaps_100 : decode cX12_swaps 100 = .ok (.iconst 0, 1) := by decide +kernel
theorem dX12_swaps_101 : decode cX12_swaps 101 = .ok (.istore 10, 2) := by decide +kernel
theorem dX12_swaps_103 : decode cX12_swaps 103 = .ok (.iload 10, 2) := by decide +kernel
theorem dX12_swaps_105 : decode cX12_swaps 105 = .ok (.iconst 3, 1) := by decide +kernel
theorem dX12_swaps_106 : decode cX12_swaps 106 = .ok (.aload_n 0, 1) := by decide +kernel
theorem dX12_swaps_107 : decode cX12_swaps 107 = .ok (.getfield 19, 3) := by decide +kernel
theorem dX12_swaps_110 : decode cX12_swaps 110 = .ok (.iconst 2, 1) := by decide +kernel
theorem dX12_swaps_111 : decode cX12_swaps 111 = .ok (.iaload, 1) := by decide +kernel
theorem dX12_swaps_112 : decode cX12_swaps 112 = .ok (.imul, 1) := by decide +kernel
theorem dX12_swaps_113 : decode cX12_swaps 113 = .ok (.if_icmp .ge 93, 3) := by decide +kernel
theorem dX12_swaps_116 : decode cX12_swaps 116 = .ok (.iload 10, 2) := by decide +kernel
theorem dX12_swaps_118 : decode cX12_swaps 118 = .ok (.iconst 3, 1) := by decide +kernel
theorem dX12_swaps_119 : decode cX12_swaps 119 = .ok (.idiv, 1) := by decide +kernel
theorem dX12_swaps_120 : decode cX12_swaps 120 = .ok (.iload 7, 2) := by decide +kernel
theorem dX12_swaps_122 : decode cX12_swaps 122 = .ok (.if_icmp .ne 15, 3) := by decide +kernel
theorem dX12_swaps_125 : decode cX12_swaps 125 = .ok (.iconst 3, 1) := by decide +kernel
theorem dX12_swaps_126 : decode cX12_swaps 126 = .ok (.iload 8, 2) := by decide +kernel
theorem dX12_swaps_128 : decode cX12_swaps 128 = .ok (.imul, 1) := by decide +kernel
theorem dX12_swaps_129 : decode cX12_swaps 129 = .ok (.iload 10, 2) := by decide +kernel
theorem dX12_swaps_131 : decode cX12_swaps 131 = .ok (.iconst 3, 1) := by decide +kernel
theorem dX12_swaps_132 : decode cX12_swaps 132 = .ok (.irem, 1) := by decide +kernel
theorem dX12_swaps_133 : decode cX12_swaps 133 = .ok (.iadd, 1) := by decide +kernel
theorem dX12_swaps_134 : decode cX12_swaps 134 = .ok (.goto 26, 3) := by decide +kernel
theorem dX12_swaps_137 : decode cX12_swaps 137 = .ok (.iload 10, 2) := by decide +kernel
theorem dX12_swaps_139 : decode cX12_swaps 139 = .ok (.iconst 3, 1) := by decide +kernel
theorem dX12_swaps_140 : decode cX12_swaps 140 = .ok (.idiv, 1) := by decide +kernel
theorem dX12_swaps_141 : decode cX12_swaps 141 = .ok (.iload 8, 2) := by decide +kernel
theorem dX12_swaps_143 : decode cX12_swaps 143 = .ok (.if_icmp .ne 15, 3) := by decide +kernel
theorem dX12_swaps_146 : decode cX12_swaps 146 = .ok (.iconst 3, 1) := by decide +kernel
theorem dX12_swaps_147 : decode cX12_swaps 147 = .ok (.iload 7, 2) := by decide +kernel
theorem dX12_swaps_149 : decode cX12_swaps 149 = .ok (.imul, 1) := by decide +kernel
theorem dX12_swaps_150 : decode cX12_swaps 150 = .ok (.iload 10, 2) := by decide +kernel
theorem dX12_swaps_152 : decode cX12_swaps 152 = .ok (.iconst 3, 1) := by decide +kernel
theorem dX12_swaps_153 : decode cX12_swaps 153 = .ok (.irem, 1) := by decide +kernel
theorem dX12_swaps_154 : decode cX12_swaps 154 = .ok (.iadd, 1) := by decide +kernel
theorem dX12_swaps_155 : decode cX12_swaps 155 = .ok (.goto 5, 3) := by decide +kernel
theorem dX12_swaps_158 : decode cX12_swaps 158 = .ok (.iload 10, 2) := by decide +kernel
theorem dX12_swaps_160 : decode cX12_swaps 160 = .ok (.istore 11, 2) := by decide +kernel
theorem dX12_swaps_162 : decode cX12_swaps 162 = .ok (.iload 9, 2) := by decide +kernel
theorem dX12_swaps_164 : decode cX12_swaps 164 = .ok (.ifCond .eq 33, 3) := by decide +kernel
theorem dX12_swaps_167 : decode cX12_swaps 167 = .ok (.aload_n 0, 1) := by decide +kernel
theorem dX12_swaps_168 : decode cX12_swaps 168 = .ok (.getfield 19, 3) := by decide +kernel
theorem dX12_swaps_171 : decode cX12_swaps 171 = .ok (.iconst 5, 1) := by decide +kernel
theorem dX12_swaps_172 : decode cX12_swaps 172 = .ok (.iload 11, 2) := by decide +kernel
theorem dX12_swaps_174 : decode cX12_swaps 174 = .ok (.iadd, 1) := by decide +kernel
theorem dX12_swaps_175 : decode cX12_swaps 175 = .ok (.iaload, 1) := by decide +kernel
theorem dX12_swaps_176 : decode cX12_swaps 176 = .ok (.aload_n 0, 1) := by decide +kernel
theorem dX12_swaps_177 : decode cX12_swaps 177 = .ok (.getfield 16, 3) := by decide +kernel
theorem dX12_swaps_180 : decode cX12_swaps 180 = .ok (.bipush 40, 2) := by decide +kernel
theorem dX12_swaps_182 : decode cX12_swaps 182 = .ok (.iload_n 1, 1) := by decide +kernel
theorem dX12_swaps_183 : decode cX12_swaps 183 = .ok (.imul, 1) := by decide +kernel
theorem dX12_swaps_184 : decode cX12_swaps 184 = .ok (.iload_n 2, 1) := by decide +kernel
theorem dX12_swaps_185 : decode cX12_swaps 185 = .ok (.iadd, 1) := by decide +kernel
theorem dX12_swaps_186 : decode cX12_swaps 186 = .ok (.iload 10, 2) := by decide +kernel
theorem dX12_swaps_188 : decode cX12_swaps 188 = .ok (.iadd, 1) := by decide +kernel
theorem dX12_swaps_189 : decode cX12_swaps 189 = .ok (.iaload, 1) := by decide +kernel
theorem dX12_swaps_190 : decode cX12_swaps 190 = .ok (.if_icmp .ne 7, 3) := by decide +kernel
theorem dX12_swaps_193 : decode cX12_swaps 193 = .ok (.iconst 1, 1) := by decide +kernel
theorem dX12_swaps_194 : decode cX12_swaps 194 = .ok (.goto 4, 3) := by decide +kernel
theorem dX12_swaps_197 : decode cX12_swaps 197 = .ok (.iconst 0, 1) := by decide +kernel
theorem dX12_swaps_198 : decode cX12_swaps 198 = .ok (.istore 9, 2) := by decide +kernel
theorem dX12_swaps_200 : decode cX12_swaps 200 = .ok (.iinc 10 1, 3) := by decide +kernel
theorem dX12_swaps_203 : decode cX12_swaps 203 = .ok (.goto (-100), 3) := by decide +kernel
theorem dX12_swaps_206 : decode cX12_swaps 206 = .ok (.iload 9, 2) := by decide +kernel
theorem dX12_swaps_208 : decode cX12_swaps 208 = .ok (.ifCond .eq 20, 3) := by decide +kernel
theorem dX12_swaps_211 : decode cX12_swaps 211 = .ok (.iload 6, 2) := by decide +kernel
theorem dX12_swaps_213 : decode cX12_swaps 213 = .ok (.ldc 96, 2) := by decide +kernel
theorem dX12_swaps_215 : decode cX12_swaps 215 = .ok (.if_icmp .ne 13, 3) := by decide +kernel
theorem dX12_swaps_218 : decode cX12_swaps 218 = .ok (.iconst 4, 1) := by decide +kernel
theorem dX12_swaps_219 : decode cX12_swaps 219 = .ok (.iload 7, 2) := by decide +kernel
theorem dX12_swaps_221 : decode cX12_swaps 221 = .ok (.imul, 1) := by decide +kernel
theorem dX12_swaps_222 : decode cX12_swaps 222 = .ok (.iload 8, 2) := by decide +kernel
theorem dX12_swaps_224 : decode cX12_swaps 224 = .ok (.iadd, 1) := by decide +kernel
theorem dX12_swaps_225 : decode cX12_swaps 225 = .ok (.goto 5, 3) := by decide +kernel
theorem dX12_swaps_228 : decode cX12_swaps 228 = .ok (.iload 6, 2) := by decide +kernel
theorem dX12_swaps_230 : decode cX12_swaps 230 = .ok (.istore 6, 2) := by decide +kernel
theorem dX12_swaps_232 : decode cX12_swaps 232 = .ok (.iload 5, 2) := by decide +kernel
theorem dX12_swaps_234 : decode cX12_swaps 234 = .ok (.iload 9, 2) := by decide +kernel
theorem dX12_swaps_236 : decode cX12_swaps 236 = .ok (.ifCond .eq 7, 3) := by decide +kernel
theorem dX12_swaps_239 : decode cX12_swaps 239 = .ok (.iconst 1, 1) := by decide +kernel
theorem dX12_swaps_240 : decode cX12_swaps 240 = .ok (.goto 4, 3) := by decide +kernel
theorem dX12_swaps_243 : decode cX12_swaps 243 = .ok (.iconst 0, 1) := by decide +kernel
theorem dX12_swaps_244 : decode cX12_swaps 244 = .ok (.iadd, 1) := by decide +kernel
theorem dX12_swaps_245 : decode cX12_swaps 245 = .ok (.istore 5, 2) := by decide +kernel
theorem dX12_swaps_247 : decode cX12_swaps 247 = .ok (.iinc 8 1, 3) := by decide +kernel
theorem dX12_swaps_250 : decode cX12_swaps 250 = .ok (.goto (-164), 3) := by decide +kernel
theorem dX12_swaps_253 : decode cX12_swaps 253 = .ok (.iinc 7 1, 3) := by decide +kernel
theorem dX12_swaps_256 : decode cX12_swaps 256 = .ok (.goto (-187), 3) := by decide +kernel
theorem dX12_swaps_259 : decode cX12_swaps 259 = .ok (.iload_n 3, 1) := by decide +kernel
theorem dX12_swaps_260 : decode cX12_swaps 260 = .ok (.ifCond .ne 8, 3) := by decide +kernel
theorem dX12_swaps_263 : decode cX12_swaps 263 = .ok (.iload 5, 2) := by decide +kernel
theorem dX12_swaps_265 : decode cX12_swaps 265 = .ok (.goto 5, 3) := by decide +kernel
theorem dX12_swaps_268 : decode cX12_swaps 268 = .ok (.iload 6, 2) := by decide +kernel
theorem dX12_swaps_270 : decode cX12_swaps 270 = .ok (.ireturn, 1) := by decide +kernel
theorem dX12_lent_0 : decode cX12_lent 0 = .ok (.aload_n 0, 1) := by decide +kernel
theorem dX12_lent_1 : decode cX12_lent 1 = .ok (.iconst 0, 1) := by decide +kernel
theorem dX12_lent_2 : decode cX12_lent 2 = .ok (.putfield 53, 3) := by decide +kernel
theorem dX12_lent_5 : decode cX12_lent 5 = .ok (.aload_n 0, 1) := by decide +kernel
theorem dX12_lent_6 : decode cX12_lent 6 = .ok (.invokevirtual 185, 3) := by decide +kernel
theorem dX12_lent_9 : decode cX12_lent 9 = .ok (.ifCond .ne 6, 3) := by decide +kernel
theorem dX12_lent_12 : decode cX12_lent 12 = .ok (.ldc 188, 2) := by decide +kernel
theorem dX12_lent_14 : decode cX12_lent 14 = .ok (.ireturn, 1) := by decide +kernel
theorem dX12_lent_15 : decode cX12_lent 15 = .ok (.iload_n 1, 1) := by decide +kernel
theorem dX12_lent_16 : decode cX12_lent 16 = .ok (.i2l, 1) := by decide +kernel
theorem dX12_lent_17 : decode cX12_lent 17 = .ok (.lconst 0, 1) := by decide +kernel
theorem dX12_lent_18 : decode cX12_lent 18 = .ok (.lconst 1, 1) := by decide +kernel
theorem dX12_lent_19 : decode cX12_lent 19 = .ok (.invokestatic 63, 3) := by decide +kernel
theorem dX12_lent_22 : decode cX12_lent 22 = .ok (.ifCond .eq 13, 3) := by decide +kernel
theorem dX12_lent_25 : decode cX12_lent 25 = .ok (.iload_n 2, 1) := by decide +kernel
theorem dX12_lent_26 : decode cX12_lent 26 = .ok (.i2l, 1) := by decide +kernel
theorem dX12_lent_27 : decode cX12_lent 27 = .ok (.lconst 0, 1) := by decide +kernel
theorem dX12_lent_28 : decode cX12_lent 28 = .ok (.lconst 1, 1) := by decide +kernel
theorem dX12_lent_29 : decode cX12_lent 29 = .ok (.invokestatic 63, 3) := by decide +kernel
theorem dX12_lent_32 : decode cX12_lent 32 = .ok (.ifCond .ne 6, 3) := by decide +kernel
theorem dX12_lent_35 : decode cX12_lent 35 = .ok (.ldc 73, 2) := by decide +kernel
theorem dX12_lent_37 : decode cX12_lent 37 = .ok (.ireturn, 1) := by decide +kernel
theorem dX12_lent_38 : decode cX12_lent 38 = .ok (.aload_n 0, 1) := by decide +kernel
theorem dX12_lent_39 : decode cX12_lent 39 = .ok (.getfield 34, 3) := by decide +kernel
theorem dX12_lent_42 : decode cX12_lent 42 = .ok (.iload_n 1, 1) := by decide +kernel
theorem dX12_lent_43 : decode cX12_lent 43 = .ok (.baload, 1) := by decide +kernel
theorem dX12_lent_44 : decode cX12_lent 44 = .ok (.ifCond .eq 24, 3) := by decide +kernel
theorem dX12_lent_47 : decode cX12_lent 47 = .ok (.aload_n 0, 1) := by decide +kernel
theorem dX12_lent_48 : decode cX12_lent 48 = .ok (.getfield 38, 3) := by decide +kernel
theorem dX12_lent_51 : decode cX12_lent 51 = .ok (.sipush 147, 3) := by decide +kernel
theorem dX12_lent_54 : decode cX12_lent 54 = .ok (.iload_n 1, 1) := by decide +kernel
theorem dX12_lent_55 : decode cX12_lent 55 = .ok (.imul, 1) := by decide +kernel
theorem dX12_lent_56 : decode cX12_lent 56 = .ok (.iconst 2, 1) := by decide +kernel
theorem dX12_lent_57 : decode cX12_lent 57 = .ok (.iadd, 1) := by decide +kernel
theorem dX12_lent_58 : decode cX12_lent 58 = .ok (.iaload, 1) := by decide +kernel
theorem dX12_lent_59 : decode cX12_lent 59 = .ok (.aload_n 0, 1) := by decide +kernel
theorem dX12_lent_60 : decode cX12_lent 60 = .ok (.getfield 19, 3) := by decide +kernel
theorem dX12_lent_63 : decode cX12_lent 63 = .ok (.iconst 2, 1) := by decide +kernel
theorem dX12_lent_64 : decode cX12_lent 64 = .ok (.iaload, 1) := by decide +kernel
theorem dX12_lent_65 : decode cX12_lent 65 = .ok (.if_icmp .eq 6, 3) := by decide +kernel
theorem dX12_lent_68 : decode cX12_lent 68 = .ok (.ldc 188, 2) := by decide +kernel
theorem dX12_lent_70 : decode cX12_lent 70 = .ok (.ireturn, 1) := by decide +kernel
theorem dX12_lent_71 : decode cX12_lent 71 = .ok (.iconst 0, 1) := by decide +kernel
theorem dX12_lent_72 : decode cX12_lent 72 = .ok (.istore_n 3, 1) := by decide +kernel
theorem dX12_lent_73 : decode cX12_lent 73 = .ok (.iconst 0, 1) := by decide +kernel
theorem dX12_lent_74 : decode cX12_lent 74 = .ok (.istore 4, 2) := by decide +kernel
theorem dX12_lent_76 : decode cX12_lent 76 = .ok (.iconst 0, 1) := by decide +kernel
theorem dX12_lent_77 : decode cX12_lent 77 = .ok (.istore 5, 2) := by decide +kernel
theorem dX12_lent_79 : decode cX12_lent 79 = .ok (.iload 5, 2) := by decide +kernel
theorem dX12_lent_81 : decode cX12_lent 81 = .ok (.iconst 3, 1) := by decide +kernel
theorem dX12_lent_82 : decode cX12_lent 82 = .ok (.aload_n 0, 1) := by decide +kernel
theorem dX12_lent_83 : decode cX12_lent 83 = .ok (.getfield 19, 3) := by decide +kernel
theorem dX12_lent_86 : decode cX12_lent 86 = .ok (.iconst 2, 1) := by decide +kernel
theorem dX12_lent_87 : decode cX12_lent 87 = .ok (.iaload, 1) := by decide +kernel
theorem dX12_lent_88 : decode cX12_lent 88 = .ok (.imul, 1) := by decide +kernel
theorem dX12_lent_89 : decode cX12_lent 89 = .ok (.if_icmp .ge 70, 3) := by decide +kernel
theorem dX12_lent_92 : decode cX12_lent 92 = .ok (.aload_n 0, 1) := by decide +kernel
theorem dX12_lent_93 : decode cX12_lent 93 = .ok (.getfield 19, 3) := by decide +kernel
theorem dX12_lent_96 : decode cX12_lent 96 = .ok (.iconst 5, 1) := by decide +kernel
theorem dX12_lent_97 : decode cX12_lent 97 = .ok (.iload 5, 2) := by decide +kernel
theorem dX12_lent_99 : decode cX12_lent 99 = .ok (.iadd, 1) := by decide +kernel
theorem dX12_lent_100 : decode cX12_lent 100 = .ok (.iaload, 1) := by decide +kernel
theorem dX12_lent_101 : decode cX12_lent 101 = .ok (.aload_n 0, 1) := by decide +kernel
theorem dX12_lent_102 : decode cX12_lent 102 = .ok (.getfield 38, 3) := by decide +kernel
theorem dX12_lent_105 : decode cX12_lent 105 = .ok (.sipush 147, 3) := by decide +kernel
theorem dX12_lent_108 : decode cX12_lent 108 = .ok (.iload_n 1, 1) := by decide +kernel
theorem dX12_lent_109 : decode cX12_lent 109 = .ok (.imul, 1) := by decide +kernel
theorem dX12_lent_110 : decode cX12_lent 110 = .ok (.iconst 5, 1) := by decide +kernel
theorem dX12_lent_111 : decode cX12_lent 111 = .ok (.iadd, 1) := by decide +kernel
theorem dX12_lent_112 : decode cX12_lent 112 = .ok (.iload 5, 2) := by decide +kernel
theorem dX12_lent_114 : decode cX12_lent 114 = .ok (.iadd, 1) := by decide +kernel
theorem dX12_lent_115 : decode cX12_lent 115 = .ok (.iaload, 1) := by decide +kernel
theorem dX12_lent_116 : decode cX12_lent 116 = .ok (.isub, 1) := by decide +kernel
theorem dX12_lent_117 : decode cX12_lent 117 = .ok (.istore 6, 2) := by decide +kernel
theorem dX12_lent_119 : decode cX12_lent 119 = .ok (.iload_n 3, 1) := by decide +kernel
theorem dX12_lent_120 : decode cX12_lent 120 = .ok (.iload 6, 2) := by decide +kernel
theorem dX12_lent_122 : decode cX12_lent 122 = .ok (.ifCond .eq 10, 3) := by decide +kernel
theorem dX12_lent_125 : decode cX12_lent 125 = .ok (.iconst 1, 1) := by decide +kernel
theorem dX12_lent_126 : decode cX12_lent 126 = .ok (.iload 5, 2) := by decide +kernel
theorem dX12_lent_128 : decode cX12_lent 128 = .ok (.ishl, 1) := by decide +kernel
theorem dX12_lent_129 : decode cX12_lent 129 = .ok (.goto 4, 3) := by decide +kernel
theorem dX12_lent_132 : decode cX12_lent 132 = .ok (.iconst 0, 1) := by decide +kernel
theorem dX12_lent_133 : decode cX12_lent 133 = .ok (.ior, 1) := by decide +kernel
theorem dX12_lent_134 : decode cX12_lent 134 = .ok (.istore_n 3, 1) := by decide +kernel
theorem dX12_lent_135 : decode cX12_lent 135 = .ok (.iload 4, 2) := by decide +kernel
theorem dX12_lent_137 : decode cX12_lent 137 = .ok (.iload 6, 2) := by decide +kernel
theorem dX12_lent_139 : decode cX12_lent 139 = .ok (.ifCond .ge 9, 3) := by decide +kernel
theorem dX12_lent_142 : decode cX12_lent 142 = .ok (.iload 6, 2) := by decide +kernel
theorem dX12_lent_144 : decode cX12_lent 144 = .ok (.ineg, 1) := by decide +kernel
theorem dX12_lent_145 : decode cX12_lent 145 = .ok (.goto 5, 3) := by decide +kernel
theorem dX12_lent_148 : decode cX12_lent 148 = .ok (.iload 6, 2) := by decide +kernel
theorem dX12_lent_150 : decode cX12_lent 150 = .ok (.iadd, 1) := by decide +kernel
theorem dX12_lent_151 : decode cX12_lent 151 = .ok (.istore 4, 2) := by decide +kernel
theorem dX12_lent_153 : decode cX12_lent 153 = .ok (.iinc 5 1, 3) := by decide +kernel
theorem dX12_lent_156 : decode cX12_lent 156 = .ok (.goto (-77), 3) := by decide +kernel
theorem dX12_lent_159 : decode cX12_lent 159 = .ok (.iload_n 2, 1) := by decide +kernel
theorem dX12_lent_160 : decode cX12_lent 160 = .ok (.ifCond .ne 7, 3) := by decide +kernel
theorem dX12_lent_163 : decode cX12_lent 163 = .ok (.iload_n 3, 1) := by decide +kernel
theorem dX12_lent_164 : decode cX12_lent 164 = .ok (.goto 5, 3) := by decide +kernel
theorem dX12_lent_167 : decode cX12_lent 167 = .ok (.iload 4, 2) := by decide +kernel
theorem dX12_lent_169 : decode cX12_lent 169 = .ok (.ireturn, 1) := by decide +kernel
theorem dX12_parted_0 : decode cX12_parted 0 = .ok (.aload_n 0, 1) := by decide +kernel
theorem dX12_parted_1 : decode cX12_parted 1 = .ok (.iconst 0, 1) := by decide +kernel
theorem dX12_parted_2 : decode cX12_parted 2 = .ok (.putfield 53, 3) := by decide +kernel
theorem dX12_parted_5 : decode cX12_parted 5 = .ok (.aload_n 0, 1) := by decide +kernel
theorem dX12_parted_6 : decode cX12_parted 6 = .ok (.iload_n 1, 1) := by decide +kernel
theorem dX12_parted_7 : decode cX12_parted 7 = .ok (.invokevirtual 158, 3) := by decide +kernel
theorem dX12_parted_10 : decode cX12_parted 10 = .ok (.ifCond .eq 41, 3) := by decide +kernel
theorem dX12_parted_13 : decode cX12_parted 13 = .ok (.aload_n 0, 1) := by decide +kernel
theorem dX12_parted_14 : decode cX12_parted 14 = .ok (.iload_n 2, 1) := by decide +kernel
theorem dX12_parted_15 : decode cX12_parted 15 = .ok (.invokevirtual 158, 3) := by decide +kernel
theorem dX12_parted_18 : decode cX12_parted 18 = .ok (.ifCond .eq 33, 3) := by decide +kernel
theorem dX12_parted_21 : decode cX12_parted 21 = .ok (.iload_n 1, 1) := by decide +kernel
theorem dX12_parted_22 : decode cX12_parted 22 = .ok (.iload_n 2, 1) := by decide +kernel
theorem dX12_parted_23 : decode cX12_parted 23 = .ok (.if_icmp .eq 28, 3) := by decide +kernel
theorem dX12_parted_26 : decode cX12_parted 26 = .ok (.iload_n 3, 1) := by decide +kernel
theorem dX12_parted_27 : decode cX12_parted 27 = .ok (.i2l, 1) := by decide +kernel
theorem dX12_parted_28 : decode cX12_parted 28 = .ok (.ldc2_w 228, 3) := by decide +kernel
theorem dX12_parted_31 : decode cX12_parted 31 = .ok (.ldc2_w 230, 3) := by decide +kernel
theorem dX12_parted_34 : decode cX12_parted 34 = .ok (.invokestatic 63, 3) := by decide +kernel
theorem dX12_parted_37 : decode cX12_parted 37 = .ok (.ifCond .eq 14, 3) := by decide +kernel
theorem dX12_parted_40 : decode cX12_parted 40 = .ok (.iload 4, 2) := by decide +kernel
theorem dX12_parted_42 : decode cX12_parted 42 = .ok (.i2l, 1) := by decide +kernel
theorem dX12_parted_43 : decode cX12_parted 43 = .ok (.lconst 0, 1) := by decide +kernel
theorem dX12_parted_44 : decode cX12_parted 44 = .ok (.lconst 1, 1) := by decide +kernel
theorem dX12_parted_45 : decode cX12_parted 45 = .ok (.invokestatic 63, 3) := by decide +kernel
theorem dX12_parted_48 : decode cX12_parted 48 = .ok (.ifCond .ne 6, 3) := by decide +kernel
theorem dX12_parted_51 : decode cX12_parted 51 = .ok (.ldc 73, 2) := by decide +kernel
theorem dX12_parted_53 : decode cX12_parted 53 = .ok (.ireturn, 1) := by decide +kernel
theorem dX12_parted_54 : decode cX12_parted 54 = .ok (.iconst 0, 1) := by decide +kernel
theorem dX12_parted_55 : decode cX12_parted 55 = .ok (.istore 5, 2) := by decide +kernel
theorem dX12_parted_57 : decode cX12_parted 57 = .ok (.ldc 96, 2) := by decide +kernel
theorem dX12_parted_59 : decode cX12_parted 59 = .ok (.istore 6, 2) := by decide +kernel
theorem dX12_parted_61 : decode cX12_parted 61 = .ok (.bipush (-20), 2) := by decide +kernel
theorem dX12_parted_63 : decode cX12_parted 63 = .ok (.istore 7, 2) := by decide +kernel
theorem dX12_parted_65 : decode cX12_parted 65 = .ok (.iload 7, 2) := by decide +kernel
theorem dX12_parted_67 : decode cX12_parted 67 = .ok (.bipush 20, 2) := by decide +kernel
theorem dX12_parted_69 : decode cX12_parted 69 = .ok (.if_icmp .gt 88, 3) := by decide +kernel
theorem dX12_parted_72 : decode cX12_parted 72 = .ok (.bipush (-20), 2) := by decide +kernel
theorem dX12_parted_74 : decode cX12_parted 74 = .ok (.istore 8, 2) := by decide +kernel
theorem dX12_parted_76 : decode cX12_parted 76 = .ok (.iload 8, 2) := by decide +kernel
theorem dX12_parted_78 : decode cX12_parted 78 = .ok (.bipush 20, 2) := by decide +kernel
theorem dX12_parted_80 : decode cX12_parted 80 = .ok (.if_icmp .gt 71, 3) := by decide +kernel
theorem dX12_parted_83 : decode cX12_parted 83 = .ok (.aload_n 0, 1) := by decide +kernel
theorem dX12_parted_84 : decode cX12_parted 84 = .ok (.iload_n 1, 1) := by decide +kernel
theorem dX12_parted_85 : decode cX12_parted 85 = .ok (.iload 7, 2) := by decide +kernel
theorem dX12_parted_87 : decode cX12_parted 87 = .ok (.invokevirtual 171, 3) := by decide +kernel
theorem dX12_parted_90 : decode cX12_parted 90 = .ok (.aload_n 0, 1) := by decide +kernel
theorem dX12_parted_91 : decode cX12_parted 91 = .ok (.iload_n 2, 1) := by decide +kernel
theorem dX12_parted_92 : decode cX12_parted 92 = .ok (.iload 8, 2) := by decide +kernel
theorem dX12_parted_94 : decode cX12_parted 94 = .ok (.invokevirtual 171, 3) := by decide +kernel
theorem dX12_parted_97 : decode cX12_parted 97 = .ok (.iadd, 1) := by decide +kernel
theorem dX12_parted_98 : decode cX12_parted 98 = .ok (.iload_n 3, 1) := by decide +kernel
theorem dX12_parted_99 : decode cX12_parted 99 = .ok (.if_icmp .ne 7, 3) := by decide +kernel
theorem dX12_parted_102 : decode cX12_parted 102 = .ok (.iconst 1, 1) := by decide +kernel
theorem dX12_parted_103 : decode cX12_parted 103 = .ok (.goto 4, 3) := by decide +kernel
theorem dX12_parted_106 : decode cX12_parted 106 = .ok (.iconst 0, 1) := by decide +kernel
theorem dX12_parted_107 : decode cX12_parted 107 = .ok (.istore 9, 2) := by decide +kernel
theorem dX12_parted_109 : decode cX12_parted 109 = .ok (.iload 5, 2) := by decide +kernel
theorem dX12_parted_111 : decode cX12_parted 111 = .ok (.iload 9, 2) := by decide +kernel
theorem dX12_parted_113 : decode cX12_parted 113 = .ok (.ifCond .eq 7, 3) := by decide +kernel
theorem dX12_parted_116 : decode cX12_parted 116 = .ok (.iconst 1, 1) := by decide +kernel
theorem dX12_parted_117 : decode cX12_parted 117 = .ok (.goto 4, 3) := by decide +kernel
theorem dX12_parted_120 : decode cX12_parted 120 = .ok (.iconst 0, 1) := by decide +kernel
theorem dX12_parted_121 : decode cX12_parted 121 = .ok (.iadd, 1) := by decide +kernel
theorem dX12_parted_122 : decode cX12_parted 122 = .ok (.istore 5, 2) := by decide +kernel
theorem dX12_parted_124 : decode cX12_parted 124 = .ok (.iload 9, 2) := by decide +kernel
theorem dX12_parted_126 : decode cX12_parted 126 = .ok (.ifCond .eq 15, 3) := by decide +kernel
theorem dX12_parted_129 : decode cX12_parted 129 = .ok (.iload 6, 2) := by decide +kernel
theorem dX12_parted_131 : decode cX12_parted 131 = .ok (.ldc 96, 2) := by decide +kernel
theorem dX12_parted_133 : decode cX12_parted 133 = .ok (.if_icmp .ne 8, 3) := by decide +kernel
theorem dX12_parted_136 : decode cX12_parted 136 = .ok (.iload 7, 2) := by decide +kernel
theorem dX12_parted_138 : decode cX12_parted 138 = .ok (.goto 5, 3) := by decide +kernel
theorem dX12_parted_141 : decode cX12_parted 141 = .ok (.iload 6, 2) := by decide +kernel
theorem dX12_parted_143 : decode cX12_parted 143 = .ok (.istore 6, 2) := by decide +kernel
theorem dX12_parted_145 : decode cX12_parted 145 = .ok (.iinc 8 1, 3) := by decide +kernel
theorem dX12_parted_148 : decode cX12_parted 148 = .ok (.goto (-72), 3) := by decide +kernel
theorem dX12_parted_151 : decode cX12_parted 151 = .ok (.iinc 7 1, 3) := by decide +kernel
theorem dX12_parted_154 : decode cX12_parted 154 = .ok (.goto (-89), 3) := by decide +kernel
theorem dX12_parted_157 : decode cX12_parted 157 = .ok (.iload 4, 2) := by decide +kernel
theorem dX12_parted_159 : decode cX12_parted 159 = .ok (.ifCond .ne 8, 3) := by decide +kernel
theorem dX12_parted_162 : decode cX12_parted 162 = .ok (.iload 5, 2) := by decide +kernel
theorem dX12_parted_164 : decode cX12_parted 164 = .ok (.goto 5, 3) := by decide +kernel
theorem dX12_parted_167 : decode cX12_parted 167 = .ok (.iload 6, 2) := by decide +kernel
theorem dX12_parted_169 : decode cX12_parted 169 = .ok (.ireturn, 1) := by decide +kernel
theorem dX12_addedUp_0 : decode cX12_addedUp 0 = .ok (.aload_n 0, 1) := by decide +kernel
theorem dX12_addedUp_1 : decode cX12_addedUp 1 = .ok (.iconst 0, 1) := by decide +kernel
theorem dX12_addedUp_2 : decode cX12_addedUp 2 = .ok (.putfield 53, 3) := by decide +kernel
theorem dX12_addedUp_5 : decode cX12_addedUp 5 = .ok (.aload_n 0, 1) := by decide +kernel
theorem dX12_addedUp_6 : decode cX12_addedUp 6 = .ok (.iload_n 1, 1) := by decide +kernel
theorem dX12_addedUp_7 : decode cX12_addedUp 7 = .ok (.invokevirtual 161, 3) := by decide +kernel
theorem dX12_addedUp_10 : decode cX12_addedUp 10 = .ok (.ifCond .eq 25, 3) := by decide +kernel
theorem dX12_addedUp_13 : decode cX12_addedUp 13 = .ok (.iload_n 2, 1) := by decide +kernel
theorem dX12_addedUp_14 : decode cX12_addedUp 14 = .ok (.i2l, 1) := by decide +kernel
theorem dX12_addedUp_15 : decode cX12_addedUp 15 = .ok (.lconst 0, 1) := by decide +kernel
theorem dX12_addedUp_16 : decode cX12_addedUp 16 = .ok (.ldc2_w 232, 3) := by decide +kernel
theorem dX12_addedUp_19 : decode cX12_addedUp 19 = .ok (.invokestatic 63, 3) := by decide +kernel
theorem dX12_addedUp_22 : decode cX12_addedUp 22 = .ok (.ifCond .eq 13, 3) := by decide +kernel
theorem dX12_addedUp_25 : decode cX12_addedUp 25 = .ok (.iload_n 3, 1) := by decide +kernel
theorem dX12_addedUp_26 : decode cX12_addedUp 26 = .ok (.i2l, 1) := by decide +kernel
theorem dX12_addedUp_27 : decode cX12_addedUp 27 = .ok (.lconst 0, 1) := by decide +kernel
theorem dX12_addedUp_28 : decode cX12_addedUp 28 = .ok (.lconst 1, 1) := by decide +kernel
theorem dX12_addedUp_29 : decode cX12_addedUp 29 = .ok (.invokestatic 63, 3) := by decide +kernel
theorem dX12_addedUp_32 : decode cX12_addedUp 32 = .ok (.ifCond .ne 6, 3) := by decide +kernel
theorem dX12_addedUp_35 : decode cX12_addedUp 35 = .ok (.ldc 73, 2) := by decide +kernel
theorem dX12_addedUp_37 : decode cX12_addedUp 37 = .ok (.ireturn, 1) := by decide +kernel
theorem dX12_addedUp_38 : decode cX12_addedUp 38 = .ok (.ldc 96, 2) := by decide +kernel
theorem dX12_addedUp_40 : decode cX12_addedUp 40 = .ok (.istore 4, 2) := by decide +kernel
theorem dX12_addedUp_42 : decode cX12_addedUp 42 = .ok (.iconst 0, 1) := by decide +kernel
theorem dX12_addedUp_43 : decode cX12_addedUp 43 = .ok (.istore 5, 2) := by decide +kernel
theorem dX12_addedUp_45 : decode cX12_addedUp 45 = .ok (.iload 5, 2) := by decide +kernel
theorem dX12_addedUp_47 : decode cX12_addedUp 47 = .ok (.bipush 8, 2) := by decide +kernel
theorem dX12_addedUp_49 : decode cX12_addedUp 49 = .ok (.if_icmp .ge 108, 3) := by decide +kernel
theorem dX12_addedUp_52 : decode cX12_addedUp 52 = .ok (.iload_n 2, 1) := by decide +kernel
theorem dX12_addedUp_53 : decode cX12_addedUp 53 = .ok (.istore 6, 2) := by decide +kernel
theorem dX12_addedUp_55 : decode cX12_addedUp 55 = .ok (.iconst 0, 1) := by decide +kernel
theorem dX12_addedUp_56 : decode cX12_addedUp 56 = .ok (.istore 7, 2) := by decide +kernel
theorem dX12_addedUp_58 : decode cX12_addedUp 58 = .ok (.iload 7, 2) := by decide +kernel
theorem dX12_addedUp_60 : decode cX12_addedUp 60 = .ok (.iconst 3, 1) := by decide +kernel
theorem dX12_addedUp_61 : decode cX12_addedUp 61 = .ok (.if_icmp .ge 42, 3) := by decide +kernel
theorem dX12_addedUp_64 : decode cX12_addedUp 64 = .ok (.iload 6, 2) := by decide +kernel
theorem dX12_addedUp_66 : decode cX12_addedUp 66 = .ok (.iload 5, 2) := by decide +kernel
theorem dX12_addedUp_68 : decode cX12_addedUp 68 = .ok (.iload 7, 2) := by decide +kernel
theorem dX12_addedUp_70 : decode cX12_addedUp 70 = .ok (.ishr, 1) := by decide +kernel
theorem dX12_addedUp_71 : decode cX12_addedUp 71 = .ok (.iconst 1, 1) := by decide +kernel
theorem dX12_addedUp_72 : decode cX12_addedUp 72 = .ok (.iand, 1) := by decide +kernel
theorem dX12_addedUp_73 : decode cX12_addedUp 73 = .ok (.iconst 1, 1) := by decide +kernel
theorem dX12_addedUp_74 : decode cX12_addedUp 74 = .ok (.if_icmp .ne 7, 3) := by decide +kernel
theorem dX12_addedUp_77 : decode cX12_addedUp 77 = .ok (.iconst 0, 1) := by decide +kernel
theorem dX12_addedUp_78 : decode cX12_addedUp 78 = .ok (.goto 16, 3) := by decide +kernel
theorem dX12_addedUp_81 : decode cX12_addedUp 81 = .ok (.aload_n 0, 1) := by decide +kernel
theorem dX12_addedUp_82 : decode cX12_addedUp 82 = .ok (.getfield 19, 3) := by decide +kernel
theorem dX12_addedUp_85 : decode cX12_addedUp 85 = .ok (.iconst 5, 1) := by decide +kernel
theorem dX12_addedUp_86 : decode cX12_addedUp 86 = .ok (.iconst 3, 1) := by decide +kernel
theorem dX12_addedUp_87 : decode cX12_addedUp 87 = .ok (.iload_n 1, 1) := by decide +kernel
theorem dX12_addedUp_88 : decode cX12_addedUp 88 = .ok (.imul, 1) := by decide +kernel
theorem dX12_addedUp_89 : decode cX12_addedUp 89 = .ok (.iadd, 1) := by decide +kernel
theorem dX12_addedUp_90 : decode cX12_addedUp 90 = .ok (.iload 7, 2) := by decide +kernel
theorem dX12_addedUp_92 : decode cX12_addedUp 92 = .ok (.iadd, 1) := by decide +kernel
theorem dX12_addedUp_93 : decode cX12_addedUp 93 = .ok (.iaload, 1) := by decide +kernel
theorem dX12_addedUp_94 : decode cX12_addedUp 94 = .ok (.isub, 1) := by decide +kernel
theorem dX12_addedUp_95 : decode cX12_addedUp 95 = .ok (.istore 6, 2) := by decide +kernel
theorem dX12_addedUp_97 : decode cX12_addedUp 97 = .ok (.iinc 7 1, 3) := by decide +kernel
theorem dX12_addedUp_100 : decode cX12_addedUp 100 = .ok (.goto (-42), 3) := by decide +kernel
theorem dX12_addedUp_103 : decode cX12_addedUp 103 = .ok (.iload 6, 2) := by decide +kernel
theorem dX12_addedUp_105 : decode cX12_addedUp 105 = .ok (.i2l, 1) := by decide +kernel
theorem dX12_addedUp_106 : decode cX12_addedUp 106 = .ok (.lconst 0, 1) := by decide +kernel
theorem dX12_addedUp_107 : decode cX12_addedUp 107 = .ok (.bipush 99, 2) := by decide +kernel
theorem dX12_addedUp_109 : decode cX12_addedUp 109 = .ok (.iload 5, 2) := by decide +kernel
theorem dX12_addedUp_111 : decode cX12_addedUp 111 = .ok (.invokestatic 211, 3) := by decide +kernel
theorem dX12_addedUp_114 : decode cX12_addedUp 114 = .ok (.imul, 1) := by decide +kernel
theorem dX12_addedUp_115 : decode cX12_addedUp 115 = .ok (.i2l, 1) := by decide +kernel
theorem dX12_addedUp_116 : decode cX12_addedUp 116 = .ok (.invokestatic 63, 3) := by decide +kernel
theorem dX12_addedUp_119 : decode cX12_addedUp 119 = .ok (.ifCond .eq 28, 3) := by decide +kernel
theorem dX12_addedUp_122 : decode cX12_addedUp 122 = .ok (.iload 4, 2) := by decide +kernel
theorem dX12_addedUp_124 : decode cX12_addedUp 124 = .ok (.ldc 96, 2) := by decide +kernel
theorem dX12_addedUp_126 : decode cX12_addedUp 126 = .ok (.if_icmp .eq 16, 3) := by decide +kernel
theorem dX12_addedUp_129 : decode cX12_addedUp 129 = .ok (.iload 5, 2) := by decide +kernel
theorem dX12_addedUp_131 : decode cX12_addedUp 131 = .ok (.invokestatic 211, 3) := by decide +kernel
theorem dX12_addedUp_134 : decode cX12_addedUp 134 = .ok (.iload 4, 2) := by decide +kernel
theorem dX12_addedUp_136 : decode cX12_addedUp 136 = .ok (.invokestatic 211, 3) := by decide +kernel
theorem dX12_addedUp_139 : decode cX12_addedUp 139 = .ok (.if_icmp .ge 8, 3) := by decide +kernel
theorem dX12_addedUp_142 : decode cX12_addedUp 142 = .ok (.iload 5, 2) := by decide +kernel
theorem dX12_addedUp_144 : decode cX12_addedUp 144 = .ok (.goto 5, 3) := by decide +kernel
theorem dX12_addedUp_147 : decode cX12_addedUp 147 = .ok (.iload 4, 2) := by decide +kernel
theorem dX12_addedUp_149 : decode cX12_addedUp 149 = .ok (.istore 4, 2) := by decide +kernel
theorem dX12_addedUp_151 : decode cX12_addedUp 151 = .ok (.iinc 5 1, 3) := by decide +kernel
theorem dX12_addedUp_154 : decode cX12_addedUp 154 = .ok (.goto (-109), 3) := by decide +kernel
theorem dX12_addedUp_157 : decode cX12_addedUp 157 = .ok (.iload 4, 2) := by decide +kernel
theorem dX12_addedUp_159 : decode cX12_addedUp 159 = .ok (.ldc 96, 2) := by decide +kernel
theorem dX12_addedUp_161 : decode cX12_addedUp 161 = .ok (.if_icmp .eq 8, 3) := by decide +kernel
theorem dX12_addedUp_164 : decode cX12_addedUp 164 = .ok (.iload_n 3, 1) := by decide +kernel
theorem dX12_addedUp_165 : decode cX12_addedUp 165 = .ok (.iconst 1, 1) := by decide +kernel
theorem dX12_addedUp_166 : decode cX12_addedUp 166 = .ok (.if_icmp .ne 8, 3) := by decide +kernel
theorem dX12_addedUp_169 : decode cX12_addedUp 169 = .ok (.iload 4, 2) := by decide +kernel
theorem dX12_addedUp_171 : decode cX12_addedUp 171 = .ok (.goto 8, 3) := by decide +kernel
theorem dX12_addedUp_174 : decode cX12_addedUp 174 = .ok (.iload 4, 2) := by decide +kernel
theorem dX12_addedUp_176 : decode cX12_addedUp 176 = .ok (.invokestatic 211, 3) := by decide +kernel
theorem dX12_addedUp_179 : decode cX12_addedUp 179 = .ok (.ireturn, 1) := by decide +kernel
theorem dX12_isCut_0 : decode cX12_isCut 0 = .ok (.iconst 1, 1) := by decide +kernel
theorem dX12_isCut_1 : decode cX12_isCut 1 = .ok (.istore 4, 2) := by decide +kernel
theorem dX12_isCut_3 : decode cX12_isCut 3 = .ok (.iconst 0, 1) := by decide +kernel
theorem dX12_isCut_4 : decode cX12_isCut 4 = .ok (.istore 5, 2) := by decide +kernel
theorem dX12_isCut_6 : decode cX12_isCut 6 = .ok (.iload 5, 2) := by decide +kernel
theorem dX12_isCut_8 : decode cX12_isCut 8 = .ok (.aload_n 0, 1) := by decide +kernel
theorem dX12_isCut_9 : decode cX12_isCut 9 = .ok (.getfield 19, 3) := by decide +kernel
theorem dX12_isCut_12 : decode cX12_isCut 12 = .ok (.iconst 2, 1) := by decide +kernel
theorem dX12_isCut_13 : decode cX12_isCut 13 = .ok (.iaload, 1) := by decide +kernel
theorem dX12_isCut_14 : decode cX12_isCut 14 = .ok (.if_icmp .ge 15, 3) := by decide +kernel
theorem dX12_isCut_17 : decode cX12_isCut 17 = .ok (.iload 4, 2) := by decide +kernel
theorem dX12_isCut_19 : decode cX12_isCut 19 = .ok (.iload_n 3, 1) := by decide +kernel
theorem dX12_isCut_20 : decode cX12_isCut 20 = .ok (.imul, 1) := by decide +kernel
theorem dX12_isCut_21 : decode cX12_isCut 21 = .ok (.istore 4, 2) := by decide +kernel
theorem dX12_isCut_23 : decode cX12_isCut 23 = .ok (.iinc 5 1, 3) := by decide +kernel
theorem dX12_isCut_26 : decode cX12_isCut 26 = .ok (.goto (-20), 3) := by decide +kernel
theorem dX12_isCut_29 : decode cX12_isCut 29 = .ok (.iconst 0, 1) := by decide +kernel
theorem dX12_isCut_30 : decode cX12_isCut 30 = .ok (.istore 5, 2) := by decide +kernel
theorem dX12_isCut_32 : decode cX12_isCut 32 = .ok (.iload 5, 2) := by decide +kernel
theorem dX12_isCut_34 : decode cX12_isCut 34 = .ok (.iload 4, 2) := by decide +kernel
theorem dX12_isCut_36 : decode cX12_isCut 36 = .ok (.if_icmp .ge 135, 3) := by decide +kernel
theorem dX12_isCut_39 : decode cX12_isCut 39 = .ok (.iload 5, 2) := by decide +kernel
theorem dX12_isCut_41 : decode cX12_isCut 41 = .ok (.istore 6, 2) := by decide +kernel
theorem dX12_isCut_43 : decode cX12_isCut 43 = .ok (.iconst 0, 1) := by decide +kernel
theorem dX12_isCut_44 : decode cX12_isCut 44 = .ok (.istore 7, 2) := by decide +kernel
theorem dX12_isCut_46 : decode cX12_isCut 46 = .ok (.iload 7, 2) := by decide +kernel
theorem dX12_isCut_48 : decode cX12_isCut 48 = .ok (.iconst 4, 1) := by decide +kernel
theorem dX12_isCut_49 : decode cX12_isCut 49 = .ok (.if_icmp .ge 17, 3) := by decide +kernel
theorem dX12_isCut_52 : decode cX12_isCut 52 = .ok (.aload_n 0, 1) := by decide +kernel
theorem dX12_isCut_53 : decode cX12_isCut 53 = .ok (.getfield 41, 3) := by decide +kernel
theorem dX12_isCut_56 : decode cX12_isCut 56 = .ok (.iload 7, 2) := by decide +kernel
theorem dX12_isCut_58 : decode cX12_isCut 58 = .ok (.iconst 0, 1) := by decide +kernel
theorem dX12_isCut_59 : decode cX12_isCut 59 = .ok (.iastore, 1) := by decide +kernel
theorem dX12_isCut_60 : decode cX12_isCut 60 = .ok (.iinc 7 1, 3) := by decide +kernel
theorem dX12_isCut_63 : decode cX12_isCut 63 = .ok (.goto (-17), 3) := by decide +kernel
theorem dX12_isCut_66 : decode cX12_isCut 66 = .ok (.iconst 1, 1) := by decide +kernel
theorem dX12_isCut_67 : decode cX12_isCut 67 = .ok (.istore 7, 2) := by decide +kernel
theorem dX12_isCut_69 : decode cX12_isCut 69 = .ok (.iconst 0, 1) := by decide +kernel
theorem dX12_isCut_70 : decode cX12_isCut 70 = .ok (.istore 8, 2) := by decide +kernel
theorem dX12_isCut_72 : decode cX12_isCut 72 = .ok (.iload 8, 2) := by decide +kernel
theorem dX12_isCut_74 : decode cX12_isCut 74 = .ok (.aload_n 0, 1) := by decide +kernel
theorem dX12_isCut_75 : decode cX12_isCut 75 = .ok (.getfield 19, 3) := by decide +kernel
theorem dX12_isCut_78 : decode cX12_isCut 78 = .ok (.iconst 2, 1) := by decide +kernel
theorem dX12_isCut_79 : decode cX12_isCut 79 = .ok (.iaload, 1) := by decide +kernel
theorem dX12_isCut_80 : decode cX12_isCut 80 = .ok (.if_icmp .ge 78, 3) := by decide +kernel
theorem dX12_isCut_83 : decode cX12_isCut 83 = .ok (.aload_n 0, 1) := by decide +kernel
theorem dX12_isCut_84 : decode cX12_isCut 84 = .ok (.getfield 19, 3) := by decide +kernel
theorem dX12_isCut_87 : decode cX12_isCut 87 = .ok (.iconst 5, 1) := by decide +kernel
theorem dX12_isCut_88 : decode cX12_isCut 88 = .ok (.iconst 3, 1) := by decide +kernel
theorem dX12_isCut_89 : decode cX12_isCut 89 = .ok (.iload 8, 2) := by decide +kernel
theorem dX12_isCut_91 : decode cX12_isCut 91 = .ok (.imul, 1) := by decide +kernel
theorem dX12_isCut_92 : decode cX12_isCut 92 = .ok (.iadd, 1) := by decide +kernel
theorem dX12_isCut_93 : decode cX12_isCut 93 = .ok (.iload_n 1, 1) := by decide +kernel
theorem dX12_isCut_94 : decode cX12_isCut 94 = .ok (.iadd, 1) := by decide +kernel
theorem dX12_isCut_95 : decode cX12_isCut 95 = .ok (.iaload, 1) := by decide +kernel
theorem dX12_isCut_96 : decode cX12_isCut 96 = .ok (.istore 9, 2) := by decide +kernel
theorem dX12_isCut_98 : decode cX12_isCut 98 = .ok (.aload_n 0, 1) := by decide +kernel
theorem dX12_isCut_99 : decode cX12_isCut 99 = .ok (.getfield 41, 3) := by decide +kernel
theorem dX12_isCut_102 : decode cX12_isCut 102 = .ok (.iload 6, 2) := by decide +kernel
theorem dX12_isCut_104 : decode cX12_isCut 104 = .ok (.iload_n 3, 1) := by decide +kernel
theorem dX12_isCut_105 : decode cX12_isCut 105 = .ok (.irem, 1) := by decide +kernel
theorem dX12_isCut_106 : decode cX12_isCut 106 = .ok (.dup2, 1) := by decide +kernel
theorem dX12_isCut_107 : decode cX12_isCut 107 = .ok (.iaload, 1) := by decide +kernel
theorem dX12_isCut_108 : decode cX12_isCut 108 = .ok (.iload 9, 2) := by decide +kernel
theorem dX12_isCut_110 : decode cX12_isCut 110 = .ok (.ifCond .le 8, 3) := by decide +kernel
theorem dX12_isCut_113 : decode cX12_isCut 113 = .ok (.iload 9, 2) := by decide +kernel
theorem dX12_isCut_115 : decode cX12_isCut 115 = .ok (.goto 4, 3) := by decide +kernel
theorem dX12_isCut_118 : decode cX12_isCut 118 = .ok (.iconst 0, 1) := by decide +kernel
theorem dX12_isCut_119 : decode cX12_isCut 119 = .ok (.iadd, 1) := by decide +kernel
theorem dX12_isCut_120 : decode cX12_isCut 120 = .ok (.iastore, 1) := by decide +kernel
theorem dX12_isCut_121 : decode cX12_isCut 121 = .ok (.iload 7, 2) := by decide +kernel
theorem dX12_isCut_123 : decode cX12_isCut 123 = .ok (.ifCond .eq 20, 3) := by decide +kernel
theorem dX12_isCut_126 : decode cX12_isCut 126 = .ok (.aload_n 0, 1) := by decide +kernel
theorem dX12_isCut_127 : decode cX12_isCut 127 = .ok (.getfield 41, 3) := by decide +kernel
theorem dX12_isCut_130 : decode cX12_isCut 130 = .ok (.iload 6, 2) := by decide +kernel
theorem dX12_isCut_132 : decode cX12_isCut 132 = .ok (.iload_n 3, 1) := by decide +kernel
theorem dX12_isCut_133 : decode cX12_isCut 133 = .ok (.irem, 1) := by decide +kernel
theorem dX12_isCut_134 : decode cX12_isCut 134 = .ok (.iaload, 1) := by decide +kernel
theorem dX12_isCut_135 : decode cX12_isCut 135 = .ok (.iload_n 2, 1) := by decide +kernel
theorem dX12_isCut_136 : decode cX12_isCut 136 = .ok (.if_icmp .gt 7, 3) := by decide +kernel
theorem dX12_isCut_139 : decode cX12_isCut 139 = .ok (.iconst 1, 1) := by decide +kernel
theorem dX12_isCut_140 : decode cX12_isCut 140 = .ok (.goto 4, 3) := by decide +kernel
theorem dX12_isCut_143 : decode cX12_isCut 143 = .ok (.iconst 0, 1) := by decide +kernel
theorem dX12_isCut_144 : decode cX12_isCut 144 = .ok (.istore 7, 2) := by decide +kernel
theorem dX12_isCut_146 : decode cX12_isCut 146 = .ok (.iload 6, 2) := by decide +kernel
theorem dX12_isCut_148 : decode cX12_isCut 148 = .ok (.iload_n 3, 1) := by decide +kernel
theorem dX12_isCut_149 : decode cX12_isCut 149 = .ok (.idiv, 1) := by decide +kernel
theorem dX12_isCut_150 : decode cX12_isCut 150 = .ok (.istore 6, 2) := by decide +kernel
theorem dX12_isCut_152 : decode cX12_isCut 152 = .ok (.iinc 8 1, 3) := by decide +kernel
theorem dX12_isCut_155 : decode cX12_isCut 155 = .ok (.goto (-83), 3) := by decide +kernel
theorem dX12_isCut_158 : decode cX12_isCut 158 = .ok (.iload 7, 2) := by decide +kernel
theorem dX12_isCut_160 : decode cX12_isCut 160 = .ok (.ifCond .eq 5, 3) := by decide +kernel
theorem dX12_isCut_163 : decode cX12_isCut 163 = .ok (.iconst 1, 1) := by decide +kernel
theorem dX12_isCut_164 : decode cX12_isCut 164 = .ok (.ireturn, 1) := by decide +kernel
theorem dX12_isCut_165 : decode cX12_isCut 165 = .ok (.iinc 5 1, 3) := by decide +kernel
theorem dX12_isCut_168 : decode cX12_isCut 168 = .ok (.goto (-136), 3) := by decide +kernel
theorem dX12_isCut_171 : decode cX12_isCut 171 = .ok (.iconst 0, 1) := by decide +kernel
theorem dX12_isCut_172 : decode cX12_isCut 172 = .ok (.ireturn, 1) := by decide +kernel
theorem dX12_felt_0 : decode cX12_felt 0 = .ok (.aload_n 0, 1) := by decide +kernel
theorem dX12_felt_1 : decode cX12_felt 1 = .ok (.iconst 0, 1) := by decide +kernel
theorem dX12_felt_2 : decode cX12_felt 2 = .ok (.putfield 53, 3) := by decide +kernel
theorem dX12_felt_5 : decode cX12_felt 5 = .ok (.aload_n 0, 1) := by decide +kernel
theorem dX12_felt_6 : decode cX12_felt 6 = .ok (.invokevirtual 185, 3) := by decide +kernel
theorem dX12_felt_9 : decode cX12_felt 9 = .ok (.ifCond .ne 6, 3) := by decide +kernel
theorem dX12_felt_12 : decode cX12_felt 12 = .ok (.ldc 188, 2) := by decide +kernel
theorem dX12_felt_14 : decode cX12_felt 14 = .ok (.ireturn, 1) := by decide +kernel
theorem dX12_felt_15 : decode cX12_felt 15 = .ok (.iload_n 1, 1) := by decide +kernel
theorem dX12_felt_16 : decode cX12_felt 16 = .ok (.invokestatic 164, 3) := by decide +kernel
theorem dX12_felt_19 : decode cX12_felt 19 = .ok (.ifCond .eq 25, 3) := by decide +kernel
theorem dX12_felt_22 : decode cX12_felt 22 = .ok (.iload_n 2, 1) := by decide +kernel
theorem dX12_felt_23 : decode cX12_felt 23 = .ok (.i2l, 1) := by decide +kernel
theorem dX12_felt_24 : decode cX12_felt 24 = .ok (.lconst 1, 1) := by decide +kernel
theorem dX12_felt_25 : decode cX12_felt 25 = .ok (.ldc2_w 230, 3) := by decide +kernel
theorem dX12_felt_28 : decode cX12_felt 28 = .ok (.invokestatic 63, 3) := by decide +kernel
theorem dX12_felt_31 : decode cX12_felt 31 = .ok (.ifCond .eq 13, 3) := by decide +kernel
theorem dX12_felt_34 : decode cX12_felt 34 = .ok (.iload_n 3, 1) := by decide +kernel
theorem dX12_felt_35 : decode cX12_felt 35 = .ok (.i2l, 1) := by decide +kernel
theorem dX12_felt_36 : decode cX12_felt 36 = .ok (.lconst 0, 1) := by decide +kernel
theorem dX12_felt_37 : decode cX12_felt 37 = .ok (.lconst 1, 1) := by decide +kernel
theorem dX12_felt_38 : decode cX12_felt 38 = .ok (.invokestatic 63, 3) := by decide +kernel
theorem dX12_felt_41 : decode cX12_felt 41 = .ok (.ifCond .ne 6, 3) := by decide +kernel
theorem dX12_felt_44 : decode cX12_felt 44 = .ok (.ldc 73, 2) := by decide +kernel
theorem dX12_felt_46 : decode cX12_felt 46 = .ok (.ireturn, 1) := by decide +kernel
theorem dX12_felt_47 : decode cX12_felt 47 = .ok (.iconst 0, 1) := by decide +kernel
theorem dX12_felt_48 : decode cX12_felt 48 = .ok (.istore 4, 2) := by decide +kernel
theorem dX12_felt_50 : decode cX12_felt 50 = .ok (.iconst 0, 1) := by decide +kernel
theorem dX12_felt_51 : decode cX12_felt 51 = .ok (.istore 5, 2) := by decide +kernel
theorem dX12_felt_53 : decode cX12_felt 53 = .ok (.iload 5, 2) := by decide +kernel
theorem dX12_felt_55 : decode cX12_felt 55 = .ok (.aload_n 0, 1) := by decide +kernel
theorem dX12_felt_56 : decode cX12_felt 56 = .ok (.getfield 19, 3) := by decide +kernel
theorem dX12_felt_59 : decode cX12_felt 59 = .ok (.iconst 2, 1) := by decide +kernel
theorem dX12_felt_60 : decode cX12_felt 60 = .ok (.iaload, 1) := by decide +kernel
theorem dX12_felt_61 : decode cX12_felt 61 = .ok (.if_icmp .ge 49, 3) := by decide +kernel
theorem dX12_felt_64 : decode cX12_felt 64 = .ok (.aload_n 0, 1) := by decide +kernel
theorem dX12_felt_65 : decode cX12_felt 65 = .ok (.getfield 19, 3) := by decide +kernel
theorem dX12_felt_68 : decode cX12_felt 68 = .ok (.iconst 5, 1) := by decide +kernel
theorem dX12_felt_69 : decode cX12_felt 69 = .ok (.iconst 3, 1) := by decide +kernel
theorem dX12_felt_70 : decode cX12_felt 70 = .ok (.iload 5, 2) := by decide +kernel
theorem dX12_felt_72 : decode cX12_felt 72 = .ok (.imul, 1) := by decide +kernel
theorem dX12_felt_73 : decode cX12_felt 73 = .ok (.iadd, 1) := by decide +kernel
theorem dX12_felt_74 : decode cX12_felt 74 = .ok (.iload_n 1, 1) := by decide +kernel
theorem dX12_felt_75 : decode cX12_felt 75 = .ok (.iadd, 1) := by decide +kernel
theorem dX12_felt_76 : decode cX12_felt 76 = .ok (.iaload, 1) := by decide +kernel
theorem dX12_felt_77 : decode cX12_felt 77 = .ok (.istore 6, 2) := by decide +kernel
theorem dX12_felt_79 : decode cX12_felt 79 = .ok (.iload 6, 2) := by decide +kernel
theorem dX12_felt_81 : decode cX12_felt 81 = .ok (.iload_n 2, 1) := by decide +kernel
theorem dX12_felt_82 : decode cX12_felt 82 = .ok (.if_icmp .le 6, 3) := by decide +kernel
theorem dX12_felt_85 : decode cX12_felt 85 = .ok (.ldc 96, 2) := by decide +kernel
theorem dX12_felt_87 : decode cX12_felt 87 = .ok (.ireturn, 1) := by decide +kernel
theorem dX12_felt_88 : decode cX12_felt 88 = .ok (.iload 4, 2) := by decide +kernel
theorem dX12_felt_90 : decode cX12_felt 90 = .ok (.iload 6, 2) := by decide +kernel
theorem dX12_felt_92 : decode cX12_felt 92 = .ok (.ifCond .le 8, 3) := by decide +kernel
theorem dX12_felt_95 : decode cX12_felt 95 = .ok (.iload 6, 2) := by decide +kernel
theorem dX12_felt_97 : decode cX12_felt 97 = .ok (.goto 4, 3) := by decide +kernel
theorem dX12_felt_100 : decode cX12_felt 100 = .ok (.iconst 0, 1) := by decide +kernel
theorem dX12_felt_101 : decode cX12_felt 101 = .ok (.iadd, 1) := by decide +kernel
theorem dX12_felt_102 : decode cX12_felt 102 = .ok (.istore 4, 2) := by decide +kernel
theorem dX12_felt_104 : decode cX12_felt 104 = .ok (.iinc 5 1, 3) := by decide +kernel
theorem dX12_felt_107 : decode cX12_felt 107 = .ok (.goto (-54), 3) := by decide +kernel
theorem dX12_felt_110 : decode cX12_felt 110 = .ok (.iload 4, 2) := by decide +kernel
theorem dX12_felt_112 : decode cX12_felt 112 = .ok (.ifCond .le 7, 3) := by decide +kernel
theorem dX12_felt_115 : decode cX12_felt 115 = .ok (.iconst 1, 1) := by decide +kernel
theorem dX12_felt_116 : decode cX12_felt 116 = .ok (.goto 4, 3) := by decide +kernel
theorem dX12_felt_119 : decode cX12_felt 119 = .ok (.iconst 0, 1) := by decide +kernel
theorem dX12_felt_120 : decode cX12_felt 120 = .ok (.istore 5, 2) := by decide +kernel
theorem dX12_felt_122 : decode cX12_felt 122 = .ok (.iload 5, 2) := by decide +kernel
theorem dX12_felt_124 : decode cX12_felt 124 = .ok (.ifCond .le 20, 3) := by decide +kernel
theorem dX12_felt_127 : decode cX12_felt 127 = .ok (.aload_n 0, 1) := by decide +kernel
theorem dX12_felt_128 : decode cX12_felt 128 = .ok (.iload_n 1, 1) := by decide +kernel
theorem dX12_felt_129 : decode cX12_felt 129 = .ok (.iload_n 2, 1) := by decide +kernel
theorem dX12_felt_130 : decode cX12_felt 130 = .ok (.iload 5, 2) := by decide +kernel
theorem dX12_felt_132 : decode cX12_felt 132 = .ok (.invokevirtual 234, 3) := by decide +kernel
theorem dX12_felt_135 : decode cX12_felt 135 = .ok (.ifCond .ne 9, 3) := by decide +kernel
theorem dX12_felt_138 : decode cX12_felt 138 = .ok (.iinc 5 1, 3) := by decide +kernel
theorem dX12_felt_141 : decode cX12_felt 141 = .ok (.goto (-19), 3) := by decide +kernel
theorem dX12_felt_144 : decode cX12_felt 144 = .ok (.iload_n 3, 1) := by decide +kernel
theorem dX12_felt_145 : decode cX12_felt 145 = .ok (.ifCond .ne 8, 3) := by decide +kernel
theorem dX12_felt_148 : decode cX12_felt 148 = .ok (.iload 5, 2) := by decide +kernel
theorem dX12_felt_150 : decode cX12_felt 150 = .ok (.goto 10, 3) := by decide +kernel
theorem dX12_felt_153 : decode cX12_felt 153 = .ok (.iload 5, 2) := by decide +kernel
theorem dX12_felt_155 : decode cX12_felt 155 = .ok (.iload_n 2, 1) := by decide +kernel
theorem dX12_felt_156 : decode cX12_felt 156 = .ok (.imul, 1) := by decide +kernel
theorem dX12_felt_157 : decode cX12_felt 157 = .ok (.iload 4, 2) := by decide +kernel
theorem dX12_felt_159 : decode cX12_felt 159 = .ok (.isub, 1) := by decide +kernel
theorem dX12_felt_160 : decode cX12_felt 160 = .ok (.ireturn, 1) := by decide +kernel
theorem dX12_unlike_0 : decode cX12_unlike 0 = .ok (.iconst 0, 1) := by decide +kernel
theorem dX12_unlike_1 : decode cX12_unlike 1 = .ok (.istore_n 3, 1) := by decide +kernel
theorem dX12_unlike_2 : decode cX12_unlike 2 = .ok (.iconst 0, 1) := by decide +kernel
theorem dX12_unlike_3 : decode cX12_unlike 3 = .ok (.istore 4, 2) := by decide +kernel
theorem dX12_unlike_5 : decode cX12_unlike 5 = .ok (.iload 4, 2) := by decide +kernel
theorem dX12_unlike_7 : decode cX12_unlike 7 = .ok (.iconst 3, 1) := by decide +kernel
theorem dX12_unlike_8 : decode cX12_unlike 8 = .ok (.if_icmp .ge 54, 3) := by decide +kernel
theorem dX12_unlike_11 : decode cX12_unlike 11 = .ok (.aload_n 0, 1) := by decide +kernel
theorem dX12_unlike_12 : decode cX12_unlike 12 = .ok (.getfield 19, 3) := by decide +kernel
theorem dX12_unlike_15 : decode cX12_unlike 15 = .ok (.iconst 5, 1) := by decide +kernel
theorem dX12_unlike_16 : decode cX12_unlike 16 = .ok (.iconst 3, 1) := by decide +kernel
theorem dX12_unlike_17 : decode cX12_unlike 17 = .ok (.iload_n 1, 1) := by decide +kernel
theorem dX12_unlike_18 : decode cX12_unlike 18 = .ok (.imul, 1) := by decide +kernel
theorem dX12_unlike_19 : decode cX12_unlike 19 = .ok (.iadd, 1) := by decide +kernel
theorem dX12_unlike_20 : decode cX12_unlike 20 = .ok (.iload 4, 2) := by decide +kernel
theorem dX12_unlike_22 : decode cX12_unlike 22 = .ok (.iadd, 1) := by decide +kernel
theorem dX12_unlike_23 : decode cX12_unlike 23 = .ok (.iaload, 1) := by decide +kernel
theorem dX12_unlike_24 : decode cX12_unlike 24 = .ok (.aload_n 0, 1) := by decide +kernel
theorem dX12_unlike_25 : decode cX12_unlike 25 = .ok (.getfield 19, 3) := by decide +kernel
theorem dX12_unlike_28 : decode cX12_unlike 28 = .ok (.iconst 5, 1) := by decide +kernel
theorem dX12_unlike_29 : decode cX12_unlike 29 = .ok (.iconst 3, 1) := by decide +kernel
theorem dX12_unlike_30 : decode cX12_unlike 30 = .ok (.iload_n 2, 1) := by decide +kernel
theorem dX12_unlike_31 : decode cX12_unlike 31 = .ok (.imul, 1) := by decide +kernel
theorem dX12_unlike_32 : decode cX12_unlike 32 = .ok (.iadd, 1) := by decide +kernel
theorem dX12_unlike_33 : decode cX12_unlike 33 = .ok (.iload 4, 2) := by decide +kernel
theorem dX12_unlike_35 : decode cX12_unlike 35 = .ok (.iadd, 1) := by decide +kernel
theorem dX12_unlike_36 : decode cX12_unlike 36 = .ok (.iaload, 1) := by decide +kernel
theorem dX12_unlike_37 : decode cX12_unlike 37 = .ok (.isub, 1) := by decide +kernel
theorem dX12_unlike_38 : decode cX12_unlike 38 = .ok (.istore 5, 2) := by decide +kernel
theorem dX12_unlike_40 : decode cX12_unlike 40 = .ok (.iload_n 3, 1) := by decide +kernel
theorem dX12_unlike_41 : decode cX12_unlike 41 = .ok (.iload 5, 2) := by decide +kernel
theorem dX12_unlike_43 : decode cX12_unlike 43 = .ok (.ifCond .ge 9, 3) := by decide +kernel
theorem dX12_unlike_46 : decode cX12_unlike 46 = .ok (.iload 5, 2) := by decide +kernel
theorem dX12_unlike_48 : decode cX12_unlike 48 = .ok (.ineg, 1) := by decide +kernel
theorem dX12_unlike_49 : decode cX12_unlike 49 = .ok (.goto 5, 3) := by decide +kernel
theorem dX12_unlike_52 : decode cX12_unlike 52 = .ok (.iload 5, 2) := by decide +kernel
theorem dX12_unlike_54 : decode cX12_unlike 54 = .ok (.iadd, 1) := by decide +kernel
theorem dX12_unlike_55 : decode cX12_unlike 55 = .ok (.istore_n 3, 1) := by decide +kernel
theorem dX12_unlike_56 : decode cX12_unlike 56 = .ok (.iinc 4 1, 3) := by decide +kernel
theorem dX12_unlike_59 : decode cX12_unlike 59 = .ok (.goto (-54), 3) := by decide +kernel
theorem dX12_unlike_62 : decode cX12_unlike 62 = .ok (.iload_n 3, 1) := by decide +kernel
theorem dX12_unlike_63 : decode cX12_unlike 63 = .ok (.ireturn, 1) := by decide +kernel
theorem dX12_layTwins_0 : decode cX12_layTwins 0 = .ok (.aload_n 0, 1) := by decide +kernel
theorem dX12_layTwins_1 : decode cX12_layTwins 1 = .ok (.getfield 19, 3) := by decide +kernel
theorem dX12_layTwins_4 : decode cX12_layTwins 4 = .ok (.iconst 2, 1) := by decide +kernel
theorem dX12_layTwins_5 : decode cX12_layTwins 5 = .ok (.iaload, 1) := by decide +kernel
theorem dX12_layTwins_6 : decode cX12_layTwins 6 = .ok (.istore_n 1, 1) := by decide +kernel
theorem dX12_layTwins_7 : decode cX12_layTwins 7 = .ok (.iconst 1, 1) := by decide +kernel
theorem dX12_layTwins_8 : decode cX12_layTwins 8 = .ok (.istore_n 2, 1) := by decide +kernel
theorem dX12_layTwins_9 : decode cX12_layTwins 9 = .ok (.iconst 0, 1) := by decide +kernel
theorem dX12_layTwins_10 : decode cX12_layTwins 10 = .ok (.istore_n 3, 1) := by decide +kernel
theorem dX12_layTwins_11 : decode cX12_layTwins 11 = .ok (.iload_n 3, 1) := by decide +kernel
theorem dX12_layTwins_12 : decode cX12_layTwins 12 = .ok (.iload_n 1, 1) := by decide +kernel
theorem dX12_layTwins_13 : decode cX12_layTwins 13 = .ok (.if_icmp .ge 13, 3) := by decide +kernel
theorem dX12_layTwins_16 : decode cX12_layTwins 16 = .ok (.iload_n 2, 1) := by decide +kernel
theorem dX12_layTwins_17 : decode cX12_layTwins 17 = .ok (.iconst 5, 1) := by decide +kernel
theorem dX12_layTwins_18 : decode cX12_layTwins 18 = .ok (.imul, 1) := by decide +kernel
theorem dX12_layTwins_19 : decode cX12_layTwins 19 = .ok (.istore_n 2, 1) := by decide +kernel
theorem dX12_layTwins_20 : decode cX12_layTwins 20 = .ok (.iinc 3 1, 3) := by decide +kernel
theorem dX12_layTwins_23 : decode cX12_layTwins 23 = .ok (.goto (-12), 3) := by decide +kernel
theorem dX12_layTwins_26 : decode cX12_layTwins 26 = .ok (.ldc 96, 2) := by decide +kernel
theorem dX12_layTwins_28 : decode cX12_layTwins 28 = .ok (.istore_n 3, 1) := by decide +kernel
theorem dX12_layTwins_29 : decode cX12_layTwins 29 = .ok (.iconst 0, 1) := by decide +kernel
theorem dX12_layTwins_30 : decode cX12_layTwins 30 = .ok (.istore 4, 2) := by decide +kernel
theorem dX12_layTwins_32 : decode cX12_layTwins 32 = .ok (.iload 4, 2) := by decide +kernel
theorem dX12_layTwins_34 : decode cX12_layTwins 34 = .ok (.iload_n 2, 1) := by decide +kernel
theorem dX12_layTwins_35 : decode cX12_layTwins 35 = .ok (.if_icmp .ge 261, 3) := by decide +kernel
theorem dX12_layTwins_38 : decode cX12_layTwins 38 = .ok (.iload 4, 2) := by decide +kernel
theorem dX12_layTwins_40 : decode cX12_layTwins 40 = .ok (.istore 5, 2) := by decide +kernel
theorem dX12_layTwins_42 : decode cX12_layTwins 42 = .ok (.iload_n 1, 1) := by decide +kernel
theorem dX12_layTwins_43 : decode cX12_layTwins 43 = .ok (.iconst 1, 1) := by decide +kernel
theorem dX12_layTwins_44 : decode cX12_layTwins 44 = .ok (.isub, 1) := by decide +kernel
theorem dX12_layTwins_45 : decode cX12_layTwins 45 = .ok (.istore 6, 2) := by decide +kernel
theorem dX12_layTwins_47 : decode cX12_layTwins 47 = .ok (.iload 6, 2) := by decide +kernel
theorem dX12_layTwins_49 : decode cX12_layTwins 49 = .ok (.ifCond .lt 26, 3) := by decide +kernel
theorem dX12_layTwins_52 : decode cX12_layTwins 52 = .ok (.aload_n 0, 1) := by decide +kernel
theorem dX12_layTwins_53 : decode cX12_layTwins 53 = .ok (.getfield 44, 3) := by decide +kernel
theorem dX12_layTwins_56 : decode cX12_layTwins 56 = .ok (.iload 6, 2) := by decide +kernel
theorem dX12_layTwins_58 : decode cX12_layTwins 58 = .ok (.iload 5, 2) := by decide +kernel
theorem dX12_layTwins_60 : decode cX12_layTwins 60 = .ok (.iconst 5, 1) := by decide +kernel
theorem dX12_layTwins_61 : decode cX12_layTwins 61 = .ok (.irem, 1) := by decide +kernel
theorem dX12_layTwins_62 : decode cX12_layTwins 62 = .ok (.iastore, 1) := by decide +kernel
theorem dX12_layTwins_63 : decode cX12_layTwins 63 = .ok (.iload 5, 2) := by decide +kernel
theorem dX12_layTwins_65 : decode cX12_layTwins 65 = .ok (.iconst 5, 1) := by decide +kernel
theorem dX12_layTwins_66 : decode cX12_layTwins 66 = .ok (.idiv, 1) := by decide +kernel
theorem dX12_layTwins_67 : decode cX12_layTwins 67 = .ok (.istore 5, 2) := by decide +kernel
theorem dX12_layTwins_69 : decode cX12_layTwins 69 = .ok (.iinc 6 (-1), 3) := by decide +kernel
theorem dX12_layTwins_72 : decode cX12_layTwins 72 = .ok (.goto (-25), 3) := by decide +kernel
theorem dX12_layTwins_75 : decode cX12_layTwins 75 = .ok (.iconst 0, 1) := by decide +kernel
theorem dX12_layTwins_76 : decode cX12_layTwins 76 = .ok (.istore 6, 2) := by decide +kernel
theorem dX12_layTwins_78 : decode cX12_layTwins 78 = .ok (.iconst 0, 1) := by decide +kernel
theorem dX12_layTwins_79 : decode cX12_layTwins 79 = .ok (.istore 7, 2) := by decide +kernel
theorem dX12_layTwins_81 : decode cX12_layTwins 81 = .ok (.iconst 1, 1) := by decide +kernel
theorem dX12_layTwins_82 : decode cX12_layTwins 82 = .ok (.istore 8, 2) := by decide +kernel
theorem dX12_layTwins_84 : decode cX12_layTwins 84 = .ok (.iconst 0, 1) := by decide +kernel
theorem dX12_layTwins_85 : decode cX12_layTwins 85 = .ok (.istore 9, 2) := by decide +kernel
theorem dX12_layTwins_87 : decode cX12_layTwins 87 = .ok (.iload 9, 2) := by decide +kernel
theorem dX12_layTwins_89 : decode cX12_layTwins 89 = .ok (.iload_n 1, 1) := by decide +kernel
theorem dX12_layTwins_90 : decode cX12_layTwins 90 = .ok (.if_icmp .ge 143, 3) := by decide +kernel
theorem dX12_layTwins_93 : decode cX12_layTwins 93 = .ok (.aload_n 0, 1) := by decide +kernel
theorem dX12_layTwins_94 : decode cX12_layTwins 94 = .ok (.getfield 44, 3) := by decide +kernel
theorem dX12_layTwins_97 : decode cX12_layTwins 97 = .ok (.iload 9, 2) := by decide +kernel
theorem dX12_layTwins_99 : decode cX12_layTwins 99 = .ok (.iaload, 1) := by decide +kernel
theorem dX12_layTwins_100 : decode cX12_layTwins 100 = .ok (.iconst 4, 1) := by decide +kernel
theorem dX12_layTwins_101 : decode cX12_layTwins 101 = .ok (.if_icmp .ne 7, 3) := by decide +kernel
theorem dX12_layTwins_104 : decode cX12_layTwins 104 = .ok (.iconst 1, 1) := by decide +kernel
theorem dX12_layTwins_105 : decode cX12_layTwins 105 = .ok (.goto 4, 3) := by decide +kernel
theorem dX12_layTwins_108 : decode cX12_layTwins 108 = .ok (.iconst 0, 1) := by decide +kernel
theorem dX12_layTwins_109 : decode cX12_layTwins 109 = .ok (.istore 10, 2) := by decide +kernel
theorem dX12_layTwins_111 : decode cX12_layTwins 111 = .ok (.iload 7, 2) := by decide +kernel
theorem dX12_layTwins_113 : decode cX12_layTwins 113 = .ok (.iload 10, 2) := by decide +kernel
theorem dX12_layTwins_115 : decode cX12_layTwins 115 = .ok (.ifCond .eq 7, 3) := by decide +kernel
theorem dX12_layTwins_118 : decode cX12_layTwins 118 = .ok (.iconst 1, 1) := by decide +kernel
theorem dX12_layTwins_119 : decode cX12_layTwins 119 = .ok (.goto 4, 3) := by decide +kernel
theorem dX12_layTwins_122 : decode cX12_layTwins 122 = .ok (.iconst 0, 1) := by decide +kernel
theorem dX12_layTwins_123 : decode cX12_layTwins 123 = .ok (.iadd, 1) := by decide +kernel
theorem dX12_layTwins_124 : decode cX12_layTwins 124 = .ok (.istore 7, 2) := by decide +kernel
theorem dX12_layTwins_126 : decode cX12_layTwins 126 = .ok (.iload 8, 2) := by decide +kernel
theorem dX12_layTwins_128 : decode cX12_layTwins 128 = .ok (.ifCond .eq 52, 3) := by decide +kernel
theorem dX12_layTwins_131 : decode cX12_layTwins 131 = .ok (.iload 10, 2) := by decide +kernel
theorem dX12_layTwins_133 : decode cX12_layTwins 133 = .ok (.ifCond .ne 43, 3) := by decide +kernel
theorem dX12_layTwins_136 : decode cX12_layTwins 136 = .ok (.aload_n 0, 1) := by decide +kernel
theorem dX12_layTwins_137 : decode cX12_layTwins 137 = .ok (.getfield 44, 3) := by decide +kernel
theorem dX12_layTwins_140 : decode cX12_layTwins 140 = .ok (.iload 9, 2) := by decide +kernel
theorem dX12_layTwins_142 : decode cX12_layTwins 142 = .ok (.iaload, 1) := by decide +kernel
theorem dX12_layTwins_143 : decode cX12_layTwins 143 = .ok (.iload_n 1, 1) := by decide +kernel
theorem dX12_layTwins_144 : decode cX12_layTwins 144 = .ok (.if_icmp .ge 36, 3) := by decide +kernel
theorem dX12_layTwins_147 : decode cX12_layTwins 147 = .ok (.aload_n 0, 1) := by decide +kernel
theorem dX12_layTwins_148 : decode cX12_layTwins 148 = .ok (.getfield 44, 3) := by decide +kernel
theorem dX12_layTwins_151 : decode cX12_layTwins 151 = .ok (.iload 9, 2) := by decide +kernel
theorem dX12_layTwins_153 : decode cX12_layTwins 153 = .ok (.iaload, 1) := by decide +kernel
theorem dX12_layTwins_154 : decode cX12_layTwins 154 = .ok (.iload 9, 2) := by decide +kernel
theorem dX12_layTwins_156 : decode cX12_layTwins 156 = .ok (.if_icmp .eq 24, 3) := by decide +kernel
theorem dX12_layTwins_159 : decode cX12_layTwins 159 = .ok (.aload_n 0, 1) := by decide +kernel
theorem dX12_layTwins_160 : decode cX12_layTwins 160 = .ok (.getfield 44, 3) := by decide +kernel
theorem dX12_layTwins_163 : decode cX12_layTwins 163 = .ok (.aload_n 0, 1) := by decide +kernel
theorem dX12_layTwins_164 : decode cX12_layTwins 164 = .ok (.getfield 44, 3) := by decide +kernel
theorem dX12_layTwins_167 : decode cX12_layTwins 167 = .ok (.iload 9, 2) := by decide +kernel
theorem dX12_layTwins_169 : decode cX12_layTwins 169 = .ok (.iaload, 1) := by decide +kernel
theorem dX12_layTwins_170 : decode cX12_layTwins 170 = .ok (.iaload, 1) := by decide +kernel
theorem dX12_layTwins_171 : decode cX12_layTwins 171 = .ok (.iload 9, 2) := by decide +kernel
theorem dX12_layTwins_173 : decode cX12_layTwins 173 = .ok (.if_icmp .ne 7, 3) := by decide +kernel
theorem dX12_layTwins_176 : decode cX12_layTwins 176 = .ok (.iconst 1, 1) := by decide +kernel
theorem dX12_layTwins_177 : decode cX12_layTwins 177 = .ok (.goto 4, 3) := by decide +kernel
theorem dX12_layTwins_180 : decode cX12_layTwins 180 = .ok (.iconst 0, 1) := by decide +kernel
theorem dX12_layTwins_181 : decode cX12_layTwins 181 = .ok (.istore 8, 2) := by decide +kernel
theorem dX12_layTwins_183 : decode cX12_layTwins 183 = .ok (.iload 6, 2) := by decide +kernel
theorem dX12_layTwins_185 : decode cX12_layTwins 185 = .ok (.iload 8, 2) := by decide +kernel
theorem dX12_layTwins_187 : decode cX12_layTwins 187 = .ok (.ifCond .eq 36, 3) := by decide +kernel
theorem dX12_layTwins_190 : decode cX12_layTwins 190 = .ok (.iload 10, 2) := by decide +kernel
theorem dX12_layTwins_192 : decode cX12_layTwins 192 = .ok (.ifCond .ne 31, 3) := by decide +kernel
theorem dX12_layTwins_195 : decode cX12_layTwins 195 = .ok (.aload_n 0, 1) := by decide +kernel
theorem dX12_layTwins_196 : decode cX12_layTwins 196 = .ok (.getfield 44, 3) := by decide +kernel
theorem dX12_layTwins_199 : decode cX12_layTwins 199 = .ok (.iload 9, 2) := by decide +kernel
theorem dX12_layTwins_201 : decode cX12_layTwins 201 = .ok (.iaload, 1) := by decide +kernel
theorem dX12_layTwins_202 : decode cX12_layTwins 202 = .ok (.iload 9, 2) := by decide +kernel
theorem dX12_layTwins_204 : decode cX12_layTwins 204 = .ok (.if_icmp .le 19, 3) := by decide +kernel
theorem dX12_layTwins_207 : decode cX12_layTwins 207 = .ok (.aload_n 0, 1) := by decide +kernel
theorem dX12_layTwins_208 : decode cX12_layTwins 208 = .ok (.iload 9, 2) := by decide +kernel
theorem dX12_layTwins_210 : decode cX12_layTwins 210 = .ok (.aload_n 0, 1) := by decide +kernel
theorem dX12_layTwins_211 : decode cX12_layTwins 211 = .ok (.getfield 44, 3) := by decide +kernel
theorem dX12_layTwins_214 : decode cX12_layTwins 214 = .ok (.iload 9, 2) := by decide +kernel
theorem dX12_layTwins_216 : decode cX12_layTwins 216 = .ok (.iaload, 1) := by decide +kernel
theorem dX12_layTwins_217 : decode cX12_layTwins 217 = .ok (.invokevirtual 237, 3) := by decide +kernel
theorem dX12_layTwins_220 : decode cX12_layTwins 220 = .ok (.goto 4, 3) := by decide +kernel
theorem dX12_layTwins_223 : decode cX12_layTwins 223 = .ok (.iconst 0, 1) := by decide +kernel
theorem dX12_layTwins_224 : decode cX12_layTwins 224 = .ok (.iadd, 1) := by decide +kernel
theorem dX12_layTwins_225 : decode cX12_layTwins 225 = .ok (.istore 6, 2) := by decide +kernel
theorem dX12_layTwins_227 : decode cX12_layTwins 227 = .ok (.iinc 9 1, 3) := by decide +kernel
theorem dX12_layTwins_230 : decode cX12_layTwins 230 = .ok (.goto (-143), 3) := by decide +kernel
theorem dX12_layTwins_233 : decode cX12_layTwins 233 = .ok (.iload 8, 2) := by decide +kernel
theorem dX12_layTwins_235 : decode cX12_layTwins 235 = .ok (.ifCond .eq 55, 3) := by decide +kernel
theorem dX12_layTwins_238 : decode cX12_layTwins 238 = .ok (.iload 7, 2) := by decide +kernel
theorem dX12_layTwins_240 : decode cX12_layTwins 240 = .ok (.iload_n 1, 1) := by decide +kernel
theorem dX12_layTwins_241 : decode cX12_layTwins 241 = .ok (.iconst 2, 1) := by decide +kernel
theorem dX12_layTwins_242 : decode cX12_layTwins 242 = .ok (.irem, 1) := by decide +kernel
theorem dX12_layTwins_243 : decode cX12_layTwins 243 = .ok (.if_icmp .ne 47, 3) := by decide +kernel
theorem dX12_layTwins_246 : decode cX12_layTwins 246 = .ok (.iload_n 3, 1) := by decide +kernel
theorem dX12_layTwins_247 : decode cX12_layTwins 247 = .ok (.ldc 96, 2) := by decide +kernel
theorem dX12_layTwins_249 : decode cX12_layTwins 249 = .ok (.if_icmp .eq 9, 3) := by decide +kernel
theorem dX12_layTwins_252 : decode cX12_layTwins 252 = .ok (.iload 6, 2) := by decide +kernel
theorem dX12_layTwins_254 : decode cX12_layTwins 254 = .ok (.iload_n 3, 1) := by decide +kernel
theorem dX12_layTwins_255 : decode cX12_layTwins 255 = .ok (.if_icmp .ge 35, 3) := by decide +kernel
theorem dX12_layTwins_258 : decode cX12_layTwins 258 = .ok (.iload 6, 2) := by decide +kernel
theorem dX12_layTwins_260 : decode cX12_layTwins 260 = .ok (.istore_n 3, 1) := by decide +kernel
theorem dX12_layTwins_261 : decode cX12_layTwins 261 = .ok (.iconst 0, 1) := by decide +kernel
theorem dX12_layTwins_262 : decode cX12_layTwins 262 = .ok (.istore 9, 2) := by decide +kernel
theorem dX12_layTwins_264 : decode cX12_layTwins 264 = .ok (.iload 9, 2) := by decide +kernel
theorem dX12_layTwins_266 : decode cX12_layTwins 266 = .ok (.iload_n 1, 1) := by decide +kernel
theorem dX12_layTwins_267 : decode cX12_layTwins 267 = .ok (.if_icmp .ge 23, 3) := by decide +kernel
theorem dX12_layTwins_270 : decode cX12_layTwins 270 = .ok (.aload_n 0, 1) := by decide +kernel
theorem dX12_layTwins_271 : decode cX12_layTwins 271 = .ok (.getfield 47, 3) := by decide +kernel
theorem dX12_layTwins_274 : decode cX12_layTwins 274 = .ok (.iload 9, 2) := by decide +kernel
theorem dX12_layTwins_276 : decode cX12_layTwins 276 = .ok (.aload_n 0, 1) := by decide +kernel
theorem dX12_layTwins_277 : decode cX12_layTwins 277 = .ok (.getfield 44, 3) := by decide +kernel
theorem dX12_layTwins_280 : decode cX12_layTwins 280 = .ok (.iload 9, 2) := by decide +kernel
theorem dX12_layTwins_282 : decode cX12_layTwins 282 = .ok (.iaload, 1) := by decide +kernel
theorem dX12_layTwins_283 : decode cX12_layTwins 283 = .ok (.iastore, 1) := by decide +kernel
theorem dX12_layTwins_284 : decode cX12_layTwins 284 = .ok (.iinc 9 1, 3) := by decide +kernel
theorem dX12_layTwins_287 : decode cX12_layTwins 287 = .ok (.goto (-23), 3) := by decide +kernel
theorem dX12_layTwins_290 : decode cX12_layTwins 290 = .ok (.iinc 4 1, 3) := by decide +kernel
theorem dX12_layTwins_293 : decode cX12_layTwins 293 = .ok (.goto (-261), 3) := by decide +kernel
theorem dX12_layTwins_296 : decode cX12_layTwins 296 = .ok (.iload_n 3, 1) := by decide +kernel
theorem dX12_layTwins_297 : decode cX12_layTwins 297 = .ok (.ireturn, 1) := by decide +kernel
theorem dX12_twins_0 : decode cX12_twins 0 = .ok (.aload_n 0, 1) := by decide +kernel
theorem dX12_twins_1 : decode cX12_twins 1 = .ok (.iconst 0, 1) := by decide +kernel
theorem dX12_twins_2 : decode cX12_twins 2 = .ok (.putfield 53, 3) := by decide +kernel
theorem dX12_twins_5 : decode cX12_twins 5 = .ok (.aload_n 0, 1) := by decide +kernel
theorem dX12_twins_6 : decode cX12_twins 6 = .ok (.invokevirtual 185, 3) := by decide +kernel
theorem dX12_twins_9 : decode cX12_twins 9 = .ok (.ifCond .ne 6, 3) := by decide +kernel
theorem dX12_twins_12 : decode cX12_twins 12 = .ok (.ldc 188, 2) := by decide +kernel
theorem dX12_twins_14 : decode cX12_twins 14 = .ok (.ireturn, 1) := by decide +kernel
theorem dX12_twins_15 : decode cX12_twins 15 = .ok (.iload_n 1, 1) := by decide +kernel
theorem dX12_twins_16 : decode cX12_twins 16 = .ok (.i2l, 1) := by decide +kernel
theorem dX12_twins_17 : decode cX12_twins 17 = .ok (.ldc2_w 240, 3) := by decide +kernel
theorem dX12_twins_20 : decode cX12_twins 20 = .ok (.aload_n 0, 1) := by decide +kernel
theorem dX12_twins_21 : decode cX12_twins 21 = .ok (.getfield 19, 3) := by decide +kernel
theorem dX12_twins_24 : decode cX12_twins 24 = .ok (.iconst 2, 1) := by decide +kernel
theorem dX12_twins_25 : decode cX12_twins 25 = .ok (.iaload, 1) := by decide +kernel
theorem dX12_twins_26 : decode cX12_twins 26 = .ok (.iconst 1, 1) := by decide +kernel
theorem dX12_twins_27 : decode cX12_twins 27 = .ok (.isub, 1) := by decide +kernel
theorem dX12_twins_28 : decode cX12_twins 28 = .ok (.i2l, 1) := by decide +kernel
theorem dX12_twins_29 : decode cX12_twins 29 = .ok (.invokestatic 63, 3) := by decide +kernel
theorem dX12_twins_32 : decode cX12_twins 32 = .ok (.ifCond .ne 6, 3) := by decide +kernel
theorem dX12_twins_35 : decode cX12_twins 35 = .ok (.ldc 73, 2) := by decide +kernel
theorem dX12_twins_37 : decode cX12_twins 37 = .ok (.ireturn, 1) := by decide +kernel
theorem dX12_twins_38 : decode cX12_twins 38 = .ok (.aload_n 0, 1) := by decide +kernel
theorem dX12_twins_39 : decode cX12_twins 39 = .ok (.invokevirtual 242, 3) := by decide +kernel
theorem dX12_twins_42 : decode cX12_twins 42 = .ok (.istore_n 2, 1) := by decide +kernel
theorem dX12_twins_43 : decode cX12_twins 43 = .ok (.iload_n 1, 1) := by decide +kernel
theorem dX12_twins_44 : decode cX12_twins 44 = .ok (.ifCond .ge 7, 3) := by decide +kernel
theorem dX12_twins_47 : decode cX12_twins 47 = .ok (.iload_n 2, 1) := by decide +kernel
theorem dX12_twins_48 : decode cX12_twins 48 = .ok (.goto 24, 3) := by decide +kernel
theorem dX12_twins_51 : decode cX12_twins 51 = .ok (.aload_n 0, 1) := by decide +kernel
theorem dX12_twins_52 : decode cX12_twins 52 = .ok (.getfield 47, 3) := by decide +kernel
theorem dX12_twins_55 : decode cX12_twins 55 = .ok (.iload_n 1, 1) := by decide +kernel
theorem dX12_twins_56 : decode cX12_twins 56 = .ok (.iaload, 1) := by decide +kernel
theorem dX12_twins_57 : decode cX12_twins 57 = .ok (.iconst 4, 1) := by decide +kernel
theorem dX12_twins_58 : decode cX12_twins 58 = .ok (.if_icmp .ne 8, 3) := by decide +kernel
theorem dX12_twins_61 : decode cX12_twins 61 = .ok (.ldc 96, 2) := by decide +kernel
theorem dX12_twins_63 : decode cX12_twins 63 = .ok (.goto 9, 3) := by decide +kernel
theorem dX12_twins_66 : decode cX12_twins 66 = .ok (.aload_n 0, 1) := by decide +kernel
theorem dX12_twins_67 : decode cX12_twins 67 = .ok (.getfield 47, 3) := by decide +kernel
theorem dX12_twins_70 : decode cX12_twins 70 = .ok (.iload_n 1, 1) := by decide +kernel
theorem dX12_twins_71 : decode cX12_twins 71 = .ok (.iaload, 1) := by decide +kernel
theorem dX12_twins_72 : decode cX12_twins 72 = .ok (.ireturn, 1) := by decide +kernel
theorem dX12_image_0 : decode cX12_image 0 = .ok (.aload_n 0, 1) := by decide +kernel
theorem dX12_image_1 : decode cX12_image 1 = .ok (.iconst 0, 1) := by decide +kernel
theorem dX12_image_2 : decode cX12_image 2 = .ok (.putfield 53, 3) := by decide +kernel
theorem dX12_image_5 : decode cX12_image 5 = .ok (.iload_n 1, 1) := by decide +kernel
theorem dX12_image_6 : decode cX12_image 6 = .ok (.i2l, 1) := by decide +kernel
theorem dX12_image_7 : decode cX12_image 7 = .ok (.lconst 0, 1) := by decide +kernel
theorem dX12_image_8 : decode cX12_image 8 = .ok (.lconst 1, 1) := by decide +kernel
theorem dX12_image_9 : decode cX12_image 9 = .ok (.invokestatic 63, 3) := by decide +kernel
theorem dX12_image_12 : decode cX12_image 12 = .ok (.ifCond .ne 6, 3) := by decide +kernel
theorem dX12_image_15 : decode cX12_image 15 = .ok (.ldc 73, 2) := by decide +kernel
theorem dX12_image_17 : decode cX12_image 17 = .ok (.ireturn, 1) := by decide +kernel
theorem dX12_image_18 : decode cX12_image 18 = .ok (.aload_n 0, 1) := by decide +kernel
theorem dX12_image_19 : decode cX12_image 19 = .ok (.invokevirtual 185, 3) := by decide +kernel
theorem dX12_image_22 : decode cX12_image 22 = .ok (.ifCond .ne 6, 3) := by decide +kernel
theorem dX12_image_25 : decode cX12_image 25 = .ok (.ldc 188, 2) := by decide +kernel
theorem dX12_image_27 : decode cX12_image 27 = .ok (.ireturn, 1) := by decide +kernel
theorem dX12_image_28 : decode cX12_image 28 = .ok (.iconst 0, 1) := by decide +kernel
theorem dX12_image_29 : decode cX12_image 29 = .ok (.istore_n 2, 1) := by decide +kernel
theorem dX12_image_30 : decode cX12_image 30 = .ok (.iload_n 2, 1) := by decide +kernel
theorem dX12_image_31 : decode cX12_image 31 = .ok (.sipush 147, 3) := by decide +kernel
theorem dX12_image_34 : decode cX12_image 34 = .ok (.if_icmp .ge 27, 3) := by decide +kernel
theorem dX12_image_37 : decode cX12_image 37 = .ok (.aload_n 0, 1) := by decide +kernel
theorem dX12_image_38 : decode cX12_image 38 = .ok (.getfield 38, 3) := by decide +kernel
theorem dX12_image_41 : decode cX12_image 41 = .ok (.sipush 147, 3) := by decide +kernel
theorem dX12_image_44 : decode cX12_image 44 = .ok (.iload_n 1, 1) := by decide +kernel
theorem dX12_image_45 : decode cX12_image 45 = .ok (.imul, 1) := by decide +kernel
theorem dX12_image_46 : decode cX12_image 46 = .ok (.iload_n 2, 1) := by decide +kernel
theorem dX12_image_47 : decode cX12_image 47 = .ok (.iadd, 1) := by decide +kernel
theorem dX12_image_48 : decode cX12_image 48 = .ok (.aload_n 0, 1) := by decide +kernel
theorem dX12_image_49 : decode cX12_image 49 = .ok (.getfield 19, 3) := by decide +kernel
theorem dX12_image_52 : decode cX12_image 52 = .ok (.iload_n 2, 1) := by decide +kernel
theorem dX12_image_53 : decode cX12_image 53 = .ok (.iaload, 1) := by decide +kernel
theorem dX12_image_54 : decode cX12_image 54 = .ok (.iastore, 1) := by decide +kernel
theorem dX12_image_55 : decode cX12_image 55 = .ok (.iinc 2 1, 3) := by decide +kernel
theorem dX12_image_58 : decode cX12_image 58 = .ok (.goto (-28), 3) := by decide +kernel
theorem dX12_image_61 : decode cX12_image 61 = .ok (.aload_n 0, 1) := by decide +kernel
theorem dX12_image_62 : decode cX12_image 62 = .ok (.getfield 34, 3) := by decide +kernel
theorem dX12_image_65 : decode cX12_image 65 = .ok (.iload_n 1, 1) := by decide +kernel
theorem dX12_image_66 : decode cX12_image 66 = .ok (.iconst 1, 1) := by decide +kernel
theorem dX12_image_67 : decode cX12_image 67 = .ok (.bastore, 1) := by decide +kernel
theorem dX12_image_68 : decode cX12_image 68 = .ok (.iconst 1, 1) := by decide +kernel
theorem dX12_image_69 : decode cX12_image 69 = .ok (.ireturn, 1) := by decide +kernel
theorem dX12_restore_0 : decode cX12_restore 0 = .ok (.aload_n 0, 1) := by decide +kernel
theorem dX12_restore_1 : decode cX12_restore 1 = .ok (.iconst 0, 1) := by decide +kernel
theorem dX12_restore_2 : decode cX12_restore 2 = .ok (.putfield 53, 3) := by decide +kernel
theorem dX12_restore_5 : decode cX12_restore 5 = .ok (.iload_n 1, 1) := by decide +kernel
theorem dX12_restore_6 : decode cX12_restore 6 = .ok (.i2l, 1) := by decide +kernel
theorem dX12_restore_7 : decode cX12_restore 7 = .ok (.lconst 0, 1) := by decide +kernel
theorem dX12_restore_8 : decode cX12_restore 8 = .ok (.lconst 1, 1) := by decide +kernel
theorem dX12_restore_9 : decode cX12_restore 9 = .ok (.invokestatic 63, 3) := by decide +kernel
theorem dX12_restore_12 : decode cX12_restore 12 = .ok (.ifCond .ne 6, 3) := by decide +kernel
theorem dX12_restore_15 : decode cX12_restore 15 = .ok (.ldc 73, 2) := by decide +kernel
theorem dX12_restore_17 : decode cX12_restore 17 = .ok (.ireturn, 1) := by decide +kernel
theorem dX12_restore_18 : decode cX12_restore 18 = .ok (.aload_n 0, 1) := by decide +kernel
theorem dX12_restore_19 : decode cX12_restore 19 = .ok (.getfield 34, 3) := by decide +kernel
theorem dX12_restore_22 : decode cX12_restore 22 = .ok (.iload_n 1, 1) := by decide +kernel
theorem dX12_restore_23 : decode cX12_restore 23 = .ok (.baload, 1) := by decide +kernel
theorem dX12_restore_24 : decode cX12_restore 24 = .ok (.ifCond .ne 6, 3) := by decide +kernel
theorem dX12_restore_27 : decode cX12_restore 27 = .ok (.ldc 188, 2) := by decide +kernel
theorem dX12_restore_29 : decode cX12_restore 29 = .ok (.ireturn, 1) := by decide +kernel
theorem dX12_restore_30 : decode cX12_restore 30 = .ok (.iconst 0, 1) := by decide +kernel
theorem dX12_restore_31 : decode cX12_restore 31 = .ok (.istore_n 2, 1) := by decide +kernel
theorem dX12_restore_32 : decode cX12_restore 32 = .ok (.iload_n 2, 1) := by decide +kernel
theorem dX12_restore_33 : decode cX12_restore 33 = .ok (.sipush 147, 3) := by decide +kernel
theorem dX12_restore_36 : decode cX12_restore 36 = .ok (.if_icmp .ge 27, 3) := by decide +kernel
theorem dX12_restore_39 : decode cX12_restore 39 = .ok (.aload_n 0, 1) := by decide +kernel
theorem dX12_restore_40 : decode cX12_restore 40 = .ok (.getfield 19, 3) := by decide +kernel
theorem dX12_restore_43 : decode cX12_restore 43 = .ok (.iload_n 2, 1) := by decide +kernel
theorem dX12_restore_44 : decode cX12_restore 44 = .ok (.aload_n 0, 1) := by decide +kernel
theorem dX12_restore_45 : decode cX12_restore 45 = .ok (.getfield 38, 3) := by decide +kernel
theorem dX12_restore_48 : decode cX12_restore 48 = .ok (.sipush 147, 3) := by decide +kernel
theorem dX12_restore_51 : decode cX12_restore 51 = .ok (.iload_n 1, 1) := by decide +kernel
theorem dX12_restore_52 : decode cX12_restore 52 = .ok (.imul, 1) := by decide +kernel
theorem dX12_restore_53 : decode cX12_restore 53 = .ok (.iload_n 2, 1) := by decide +kernel
theorem dX12_restore_54 : decode cX12_restore 54 = .ok (.iadd, 1) := by decide +kernel
theorem dX12_restore_55 : decode cX12_restore 55 = .ok (.iaload, 1) := by decide +kernel
theorem dX12_restore_56 : decode cX12_restore 56 = .ok (.iastore, 1) := by decide +kernel
theorem dX12_restore_57 : decode cX12_restore 57 = .ok (.iinc 2 1, 3) := by decide +kernel
theorem dX12_restore_60 : decode cX12_restore 60 = .ok (.goto (-28), 3) := by decide +kernel
theorem dX12_restore_63 : decode cX12_restore 63 = .ok (.aload_n 0, 1) := by decide +kernel
theorem dX12_restore_64 : decode cX12_restore 64 = .ok (.iconst 0, 1) := by decide +kernel
theorem dX12_restore_65 : decode cX12_restore 65 = .ok (.putfield 152, 3) := by decide +kernel
theorem dX12_restore_68 : decode cX12_restore 68 = .ok (.iconst 1, 1) := by decide +kernel
theorem dX12_restore_69 : decode cX12_restore 69 = .ok (.ireturn, 1) := by decide +kernel
theorem dX12_isOf_0 : decode cX12_isOf 0 = .ok (.iload_n 1, 1) := by decide +kernel
theorem dX12_isOf_1 : decode cX12_isOf 1 = .ok (.ifCond .eq 28, 3) := by decide +kernel
theorem dX12_isOf_4 : decode cX12_isOf 4 = .ok (.iload_n 0, 1) := by decide +kernel
theorem dX12_isOf_5 : decode cX12_isOf 5 = .ok (.iload_n 1, 1) := by decide +kernel
theorem dX12_isOf_6 : decode cX12_isOf 6 = .ok (.if_icmp .eq 23, 3) := by decide +kernel
theorem dX12_isOf_9 : decode cX12_isOf 9 = .ok (.iload_n 1, 1) := by decide +kernel
theorem dX12_isOf_10 : decode cX12_isOf 10 = .ok (.iconst 1, 1) := by decide +kernel
theorem dX12_isOf_11 : decode cX12_isOf 11 = .ok (.if_icmp .ne 8, 3) := by decide +kernel
theorem dX12_isOf_14 : decode cX12_isOf 14 = .ok (.iload_n 0, 1) := by decide +kernel
theorem dX12_isOf_15 : decode cX12_isOf 15 = .ok (.iconst 4, 1) := by decide +kernel
theorem dX12_isOf_16 : decode cX12_isOf 16 = .ok (.if_icmp .lt 13, 3) := by decide +kernel
theorem dX12_isOf_19 : decode cX12_isOf 19 = .ok (.iload_n 1, 1) := by decide +kernel
theorem dX12_isOf_20 : decode cX12_isOf 20 = .ok (.iconst 4, 1) := by decide +kernel
theorem dX12_isOf_21 : decode cX12_isOf 21 = .ok (.if_icmp .ne 12, 3) := by decide +kernel
theorem dX12_isOf_24 : decode cX12_isOf 24 = .ok (.iload_n 0, 1) := by decide +kernel
theorem dX12_isOf_25 : decode cX12_isOf 25 = .ok (.iconst 5, 1) := by decide +kernel
theorem dX12_isOf_26 : decode cX12_isOf 26 = .ok (.if_icmp .ne 7, 3) := by decide +kernel
theorem dX12_isOf_29 : decode cX12_isOf 29 = .ok (.iconst 1, 1) := by decide +kernel
theorem dX12_isOf_30 : decode cX12_isOf 30 = .ok (.goto 4, 3) := by decide +kernel
theorem dX12_isOf_33 : decode cX12_isOf 33 = .ok (.iconst 0, 1) := by decide +kernel
theorem dX12_isOf_34 : decode cX12_isOf 34 = .ok (.ireturn, 1) := by decide +kernel
theorem dX12_kind_0 : decode cX12_kind 0 = .ok (.aload_n 0, 1) := by decide +kernel
theorem dX12_kind_1 : decode cX12_kind 1 = .ok (.iconst 0, 1) := by decide +kernel
theorem dX12_kind_2 : decode cX12_kind 2 = .ok (.putfield 53, 3) := by decide +kernel
theorem dX12_kind_5 : decode cX12_kind 5 = .ok (.aload_n 0, 1) := by decide +kernel
theorem dX12_kind_6 : decode cX12_kind 6 = .ok (.iload_n 1, 1) := by decide +kernel
theorem dX12_kind_7 : decode cX12_kind 7 = .ok (.invokevirtual 158, 3) := by decide +kernel
theorem dX12_kind_10 : decode cX12_kind 10 = .ok (.ifCond .eq 11, 3) := by decide +kernel
theorem dX12_kind_13 : decode cX12_kind 13 = .ok (.aload_n 0, 1) := by decide +kernel
theorem dX12_kind_14 : decode cX12_kind 14 = .ok (.iload_n 1, 1) := by decide +kernel
theorem dX12_kind_15 : decode cX12_kind 15 = .ok (.invokevirtual 155, 3) := by decide +kernel
theorem dX12_kind_18 : decode cX12_kind 18 = .ok (.goto 5, 3) := by decide +kernel
theorem dX12_kind_21 : decode cX12_kind 21 = .ok (.ldc 73, 2) := by decide +kernel
theorem dX12_kind_23 : decode cX12_kind 23 = .ok (.ireturn, 1) := by decide +kernel
theorem dX12_as_0 : decode cX12_as 0 = .ok (.aload_n 0, 1) := by decide +kernel
theorem dX12_as_1 : decode cX12_as 1 = .ok (.iconst 0, 1) := by decide +kernel
theorem dX12_as_2 : decode cX12_as 2 = .ok (.putfield 53, 3) := by decide +kernel
theorem dX12_as_5 : decode cX12_as 5 = .ok (.aload_n 0, 1) := by decide +kernel
theorem dX12_as_6 : decode cX12_as 6 = .ok (.iload_n 1, 1) := by decide +kernel
theorem dX12_as_7 : decode cX12_as 7 = .ok (.invokevirtual 158, 3) := by decide +kernel
theorem dX12_as_10 : decode cX12_as 10 = .ok (.ifCond .eq 15, 3) := by decide +kernel
theorem dX12_as_13 : decode cX12_as 13 = .ok (.iload_n 2, 1) := by decide +kernel
theorem dX12_as_14 : decode cX12_as 14 = .ok (.i2l, 1) := by decide +kernel
theorem dX12_as_15 : decode cX12_as 15 = .ok (.lconst 0, 1) := by decide +kernel
theorem dX12_as_16 : decode cX12_as 16 = .ok (.ldc2_w 195, 3) := by decide +kernel
theorem dX12_as_19 : decode cX12_as 19 = .ok (.invokestatic 63, 3) := by decide +kernel
theorem dX12_as_22 : decode cX12_as 22 = .ok (.ifCond .ne 6, 3) := by decide +kernel
theorem dX12_as_25 : decode cX12_as 25 = .ok (.ldc 73, 2) := by decide +kernel
theorem dX12_as_27 : decode cX12_as 27 = .ok (.ireturn, 1) := by decide +kernel
theorem dX12_as_28 : decode cX12_as 28 = .ok (.aload_n 0, 1) := by decide +kernel
theorem dX12_as_29 : decode cX12_as 29 = .ok (.iconst 0, 1) := by decide +kernel
theorem dX12_as_30 : decode cX12_as 30 = .ok (.putfield 57, 3) := by decide +kernel
theorem dX12_as_33 : decode cX12_as 33 = .ok (.aload_n 0, 1) := by decide +kernel
theorem dX12_as_34 : decode cX12_as 34 = .ok (.iload_n 1, 1) := by decide +kernel
theorem dX12_as_35 : decode cX12_as 35 = .ok (.invokevirtual 155, 3) := by decide +kernel
theorem dX12_as_38 : decode cX12_as 38 = .ok (.iload_n 2, 1) := by decide +kernel
theorem dX12_as_39 : decode cX12_as 39 = .ok (.invokestatic 246, 3) := by decide +kernel
theorem dX12_as_42 : decode cX12_as 42 = .ok (.ifCond .eq 7, 3) := by decide +kernel
theorem dX12_as_45 : decode cX12_as 45 = .ok (.iload_n 1, 1) := by decide +kernel
theorem dX12_as_46 : decode cX12_as 46 = .ok (.goto 8, 3) := by decide +kernel
theorem dX12_as_49 : decode cX12_as 49 = .ok (.aload_n 0, 1) := by decide +kernel
theorem dX12_as_50 : decode cX12_as 50 = .ok (.iconst 3, 1) := by decide +kernel
theorem dX12_as_51 : decode cX12_as 51 = .ok (.invokevirtual 74, 3) := by decide +kernel
theorem dX12_as_54 : decode cX12_as 54 = .ok (.ireturn, 1) := by decide +kernel
theorem dX12_began_0 : decode cX12_began 0 = .ok (.aload_n 0, 1) := by decide +kernel
theorem dX12_began_1 : decode cX12_began 1 = .ok (.getfield 250, 3) := by decide +kernel
theorem dX12_began_4 : decode cX12_began 4 = .ok (.bipush 16, 2) := by decide +kernel
theorem dX12_began_6 : decode cX12_began 6 = .ok (.if_icmp .ge 23, 3) := by decide +kernel
theorem dX12_began_9 : decode cX12_began 9 = .ok (.aload_n 0, 1) := by decide +kernel
theorem dX12_began_10 : decode cX12_began 10 = .ok (.getfield 50, 3) := by decide +kernel
theorem dX12_began_13 : decode cX12_began 13 = .ok (.aload_n 0, 1) := by decide +kernel
theorem dX12_began_14 : decode cX12_began 14 = .ok (.getfield 250, 3) := by decide +kernel
theorem dX12_began_17 : decode cX12_began 17 = .ok (.iload_n 1, 1) := by decide +kernel
theorem dX12_began_18 : decode cX12_began 18 = .ok (.iastore, 1) := by decide +kernel
theorem dX12_began_19 : decode cX12_began 19 = .ok (.aload_n 0, 1) := by decide +kernel
theorem dX12_began_20 : decode cX12_began 20 = .ok (.dup, 1) := by decide +kernel
theorem dX12_began_21 : decode cX12_began 21 = .ok (.getfield 250, 3) := by decide +kernel
theorem dX12_began_24 : decode cX12_began 24 = .ok (.iconst 1, 1) := by decide +kernel
theorem dX12_began_25 : decode cX12_began 25 = .ok (.iadd, 1) := by decide +kernel
theorem dX12_began_26 : decode cX12_began 26 = .ok (.putfield 250, 3) := by decide +kernel
theorem dX12_began_29 : decode cX12_began 29 = .ok (.return_, 1) := by decide +kernel
theorem dX12_plainSize_0 : decode cX12_plainSize 0 = .ok (.aload_n 0, 1) := by decide +kernel
theorem dX12_plainSize_1 : decode cX12_plainSize 1 = .ok (.bipush 10, 2) := by decide +kernel
theorem dX12_plainSize_3 : decode cX12_plainSize 3 = .ok (.invokevirtual 253, 3) := by decide +kernel
theorem dX12_plainSize_6 : decode cX12_plainSize 6 = .ok (.aload_n 0, 1) := by decide +kernel
theorem dX12_plainSize_7 : decode cX12_plainSize 7 = .ok (.iload_n 1, 1) := by decide +kernel
theorem dX12_plainSize_8 : decode cX12_plainSize 8 = .ok (.invokevirtual 220, 3) := by decide +kernel
theorem dX12_plainSize_11 : decode cX12_plainSize 11 = .ok (.ireturn, 1) := by decide +kernel
theorem dX12_gossipSize_0 : decode cX12_gossipSize 0 = .ok (.aload_n 0, 1) := by decide +kernel
theorem dX12_gossipSize_1 : decode cX12_gossipSize 1 = .ok (.iload_n 1, 1) := by decide +kernel
theorem dX12_gossipSize_2 : decode cX12_gossipSize 2 = .ok (.invokevirtual 155, 3) := by decide +kernel
theorem dX12_gossipSize_5 : decode cX12_gossipSize 5 = .ok (.iconst 5, 1) := by decide +kernel
theorem dX12_gossipSize_6 : decode cX12_gossipSize 6 = .ok (.if_icmp .ne 9, 3) := by decide +kernel
theorem dX12_gossipSize_9 : decode cX12_gossipSize 9 = .ok (.aload_n 0, 1) := by decide +kernel
theorem dX12_gossipSize_10 : decode cX12_gossipSize 10 = .ok (.bipush 14, 2) := by decide +kernel
theorem dX12_gossipSize_12 : decode cX12_gossipSize 12 = .ok (.invokevirtual 253, 3) := by decide +kernel
theorem dX12_gossipSize_15 : decode cX12_gossipSize 15 = .ok (.aload_n 0, 1) := by decide +kernel
theorem dX12_gossipSize_16 : decode cX12_gossipSize 16 = .ok (.bipush 13, 2) := by decide +kernel
theorem dX12_gossipSize_18 : decode cX12_gossipSize 18 = .ok (.invokevirtual 253, 3) := by decide +kernel
theorem dX12_gossipSize_21 : decode cX12_gossipSize 21 = .ok (.aload_n 0, 1) := by decide +kernel
theorem dX12_gossipSize_22 : decode cX12_gossipSize 22 = .ok (.iload_n 1, 1) := by decide +kernel
theorem dX12_gossipSize_23 : decode cX12_gossipSize 23 = .ok (.invokevirtual 256, 3) := by decide +kernel
theorem dX12_gossipSize_26 : decode cX12_gossipSize 26 = .ok (.bipush 100, 2) := by decide +kernel
theorem dX12_gossipSize_28 : decode cX12_gossipSize 28 = .ok (.isub, 1) := by decide +kernel
theorem dX12_gossipSize_29 : decode cX12_gossipSize 29 = .ok (.istore_n 2, 1) := by decide +kernel
theorem dX12_gossipSize_30 : decode cX12_gossipSize 30 = .ok (.aload_n 0, 1) := by decide +kernel
theorem dX12_gossipSize_31 : decode cX12_gossipSize 31 = .ok (.iload_n 1, 1) := by decide +kernel
theorem dX12_gossipSize_32 : decode cX12_gossipSize 32 = .ok (.invokevirtual 155, 3) := by decide +kernel
theorem dX12_gossipSize_35 : decode cX12_gossipSize 35 = .ok (.iconst 5, 1) := by decide +kernel
theorem dX12_gossipSize_36 : decode cX12_gossipSize 36 = .ok (.if_icmp .ne 9, 3) := by decide +kernel
theorem dX12_gossipSize_39 : decode cX12_gossipSize 39 = .ok (.iconst 2, 1) := by decide +kernel
theorem dX12_gossipSize_40 : decode cX12_gossipSize 40 = .ok (.iload_n 2, 1) := by decide +kernel
theorem dX12_gossipSize_41 : decode cX12_gossipSize 41 = .ok (.imul, 1) := by decide +kernel
theorem dX12_gossipSize_42 : decode cX12_gossipSize 42 = .ok (.goto 4, 3) := by decide +kernel
theorem dX12_gossipSize_45 : decode cX12_gossipSize 45 = .ok (.iload_n 2, 1) := by decide +kernel
theorem dX12_gossipSize_46 : decode cX12_gossipSize 46 = .ok (.ireturn, 1) := by decide +kernel
theorem dX12_markOf_0 : decode cX12_markOf 0 = .ok (.aload_n 0, 1) := by decide +kernel
theorem dX12_markOf_1 : decode cX12_markOf 1 = .ok (.iload_n 1, 1) := by decide +kernel
theorem dX12_markOf_2 : decode cX12_markOf 2 = .ok (.invokevirtual 155, 3) := by decide +kernel
theorem dX12_markOf_5 : decode cX12_markOf 5 = .ok (.istore_n 2, 1) := by decide +kernel
theorem dX12_markOf_6 : decode cX12_markOf 6 = .ok (.iload_n 2, 1) := by decide +kernel
theorem dX12_markOf_7 : decode cX12_markOf 7 = .ok (.iconst 4, 1) := by decide +kernel
theorem dX12_markOf_8 : decode cX12_markOf 8 = .ok (.if_icmp .lt 23, 3) := by decide +kernel
theorem dX12_markOf_11 : decode cX12_markOf 11 = .ok (.aload_n 0, 1) := by decide +kernel
theorem dX12_markOf_12 : decode cX12_markOf 12 = .ok (.bipush 23, 2) := by decide +kernel
theorem dX12_markOf_14 : decode cX12_markOf 14 = .ok (.invokevirtual 253, 3) := by decide +kernel
theorem dX12_markOf_17 : decode cX12_markOf 17 = .ok (.aload_n 0, 1) := by decide +kernel
theorem dX12_markOf_18 : decode cX12_markOf 18 = .ok (.bipush 20, 2) := by decide +kernel
theorem dX12_markOf_20 : decode cX12_markOf 20 = .ok (.invokevirtual 253, 3) := by decide +kernel
theorem dX12_markOf_23 : decode cX12_markOf 23 = .ok (.iload_n 1, 1) := by decide +kernel
theorem dX12_markOf_24 : decode cX12_markOf 24 = .ok (.aload_n 0, 1) := by decide +kernel
theorem dX12_markOf_25 : decode cX12_markOf 25 = .ok (.iload_n 1, 1) := by decide +kernel
theorem dX12_markOf_26 : decode cX12_markOf 26 = .ok (.invokevirtual 259, 3) := by decide +kernel
theorem dX12_markOf_29 : decode cX12_markOf 29 = .ok (.isub, 1) := by decide +kernel
theorem dX12_markOf_30 : decode cX12_markOf 30 = .ok (.ireturn, 1) := by decide +kernel
theorem dX12_markOf_31 : decode cX12_markOf 31 = .ok (.iload_n 2, 1) := by decide +kernel
theorem dX12_markOf_32 : decode cX12_markOf 32 = .ok (.iconst 1, 1) := by decide +kernel
theorem dX12_markOf_33 : decode cX12_markOf 33 = .ok (.if_icmp .eq 19, 3) := by decide +kernel
theorem dX12_markOf_36 : decode cX12_markOf 36 = .ok (.aload_n 0, 1) := by decide +kernel
theorem dX12_markOf_37 : decode cX12_markOf 37 = .ok (.iload_n 2, 1) := by decide +kernel
theorem dX12_markOf_38 : decode cX12_markOf 38 = .ok (.iconst 3, 1) := by decide +kernel
theorem dX12_markOf_39 : decode cX12_markOf 39 = .ok (.if_icmp .ne 8, 3) := by decide +kernel
theorem dX12_markOf_42 : decode cX12_markOf 42 = .ok (.bipush 22, 2) := by decide +kernel
theorem dX12_markOf_44 : decode cX12_markOf 44 = .ok (.goto 5, 3) := by decide +kernel
theorem dX12_markOf_47 : decode cX12_markOf 47 = .ok (.bipush 24, 2) := by decide +kernel
theorem dX12_markOf_49 : decode cX12_markOf 49 = .ok (.invokevirtual 253, 3) := by decide +kernel
theorem dX12_markOf_52 : decode cX12_markOf 52 = .ok (.aload_n 0, 1) := by decide +kernel
theorem dX12_markOf_53 : decode cX12_markOf 53 = .ok (.bipush 21, 2) := by decide +kernel
theorem dX12_markOf_55 : decode cX12_markOf 55 = .ok (.invokevirtual 253, 3) := by decide +kernel
theorem dX12_markOf_58 : decode cX12_markOf 58 = .ok (.aload_n 0, 1) := by decide +kernel
theorem dX12_markOf_59 : decode cX12_markOf 59 = .ok (.bipush 20, 2) := by decide +kernel
theorem dX12_markOf_61 : decode cX12_markOf 61 = .ok (.invokevirtual 253, 3) := by decide +kernel
theorem dX12_markOf_64 : decode cX12_markOf 64 = .ok (.iload_n 1, 1) := by decide +kernel
theorem dX12_markOf_65 : decode cX12_markOf 65 = .ok (.istore_n 3, 1) := by decide +kernel
theorem dX12_markOf_66 : decode cX12_markOf 66 = .ok (.iconst 0, 1) := by decide +kernel
theorem dX12_markOf_67 : decode cX12_markOf 67 = .ok (.istore 4, 2) := by decide +kernel
theorem dX12_markOf_69 : decode cX12_markOf 69 = .ok (.iload 4, 2) := by decide +kernel
theorem dX12_markOf_71 : decode cX12_markOf 71 = .ok (.aload_n 0, 1) := by decide +kernel
theorem dX12_markOf_72 : decode cX12_markOf 72 = .ok (.getfield 19, 3) := by decide +kernel
theorem dX12_markOf_75 : decode cX12_markOf 75 = .ok (.iconst 4, 1) := by decide +kernel
theorem dX12_markOf_76 : decode cX12_markOf 76 = .ok (.iaload, 1) := by decide +kernel
theorem dX12_markOf_77 : decode cX12_markOf 77 = .ok (.if_icmp .ge 38, 3) := by decide +kernel
theorem dX12_markOf_80 : decode cX12_markOf 80 = .ok (.iload_n 3, 1) := by decide +kernel
theorem dX12_markOf_81 : decode cX12_markOf 81 = .ok (.aload_n 0, 1) := by decide +kernel
theorem dX12_markOf_82 : decode cX12_markOf 82 = .ok (.iload 4, 2) := by decide +kernel
theorem dX12_markOf_84 : decode cX12_markOf 84 = .ok (.iconst 0, 1) := by decide +kernel
theorem dX12_markOf_85 : decode cX12_markOf 85 = .ok (.invokevirtual 197, 3) := by decide +kernel
theorem dX12_markOf_88 : decode cX12_markOf 88 = .ok (.ifCond .ne 18, 3) := by decide +kernel
theorem dX12_markOf_91 : decode cX12_markOf 91 = .ok (.aload_n 0, 1) := by decide +kernel
theorem dX12_markOf_92 : decode cX12_markOf 92 = .ok (.iload 4, 2) := by decide +kernel
theorem dX12_markOf_94 : decode cX12_markOf 94 = .ok (.iconst 1, 1) := by decide +kernel
theorem dX12_markOf_95 : decode cX12_markOf 95 = .ok (.invokevirtual 197, 3) := by decide +kernel
theorem dX12_markOf_98 : decode cX12_markOf 98 = .ok (.iload_n 1, 1) := by decide +kernel
theorem dX12_markOf_99 : decode cX12_markOf 99 = .ok (.if_icmp .ne 7, 3) := by decide +kernel
theorem dX12_markOf_102 : decode cX12_markOf 102 = .ok (.iconst 1, 1) := by decide +kernel
theorem dX12_markOf_103 : decode cX12_markOf 103 = .ok (.goto 4, 3) := by decide +kernel
theorem dX12_markOf_106 : decode cX12_markOf 106 = .ok (.iconst 0, 1) := by decide +kernel
theorem dX12_markOf_107 : decode cX12_markOf 107 = .ok (.iadd, 1) := by decide +kernel
theorem dX12_markOf_108 : decode cX12_markOf 108 = .ok (.istore_n 3, 1) := by decide +kernel
theorem dX12_markOf_109 : decode cX12_markOf 109 = .ok (.iinc 4 1, 3) := by decide +kernel
theorem dX12_markOf_112 : decode cX12_markOf 112 = .ok (.goto (-43), 3) := by decide +kernel
theorem dX12_markOf_115 : decode cX12_markOf 115 = .ok (.iload_n 2, 1) := by decide +kernel
theorem dX12_markOf_116 : decode cX12_markOf 116 = .ok (.iconst 1, 1) := by decide +kernel
theorem dX12_markOf_117 : decode cX12_markOf 117 = .ok (.if_icmp .ne 7, 3) := by decide +kernel
theorem dX12_markOf_120 : decode cX12_markOf 120 = .ok (.iload_n 3, 1) := by decide +kernel
theorem dX12_markOf_121 : decode cX12_markOf 121 = .ok (.goto 19, 3) := by decide +kernel
theorem dX12_markOf_124 : decode cX12_markOf 124 = .ok (.iload_n 2, 1) := by decide +kernel
theorem dX12_markOf_125 : decode cX12_markOf 125 = .ok (.iconst 3, 1) := by decide +kernel
theorem dX12_markOf_126 : decode cX12_markOf 126 = .ok (.if_icmp .ne 11, 3) := by decide +kernel
theorem dX12_markOf_129 : decode cX12_markOf 129 = .ok (.iload_n 3, 1) := by decide +kernel
theorem dX12_markOf_130 : decode cX12_markOf 130 = .ok (.sipush 1000, 3) := by decide +kernel
theorem dX12_markOf_133 : decode cX12_markOf 133 = .ok (.isub, 1) := by decide +kernel
theorem dX12_markOf_134 : decode cX12_markOf 134 = .ok (.goto 6, 3) := by decide +kernel
theorem dX12_markOf_137 : decode cX12_markOf 137 = .ok (.iconst 2, 1) := by decide +kernel
theorem dX12_markOf_138 : decode cX12_markOf 138 = .ok (.iload_n 3, 1) := by decide +kernel
theorem dX12_markOf_139 : decode cX12_markOf 139 = .ok (.imul, 1) := by decide +kernel
theorem dX12_markOf_140 : decode cX12_markOf 140 = .ok (.ireturn, 1) := by decide +kernel
theorem dX12_sizeOf_0 : decode cX12_sizeOf 0 = .ok (.aload_n 0, 1) := by decide +kernel
theorem dX12_sizeOf_1 : decode cX12_sizeOf 1 = .ok (.iload_n 1, 1) := by decide +kernel
theorem dX12_sizeOf_2 : decode cX12_sizeOf 2 = .ok (.invokevirtual 155, 3) := by decide +kernel
theorem dX12_sizeOf_5 : decode cX12_sizeOf 5 = .ok (.istore_n 2, 1) := by decide +kernel
theorem dX12_sizeOf_6 : decode cX12_sizeOf 6 = .ok (.iload_n 2, 1) := by decide +kernel
theorem dX12_sizeOf_7 : decode cX12_sizeOf 7 = .ok (.iconst 4, 1) := by decide +kernel
theorem dX12_sizeOf_8 : decode cX12_sizeOf 8 = .ok (.if_icmp .lt 9, 3) := by decide +kernel
theorem dX12_sizeOf_11 : decode cX12_sizeOf 11 = .ok (.aload_n 0, 1) := by decide +kernel
theorem dX12_sizeOf_12 : decode cX12_sizeOf 12 = .ok (.iload_n 1, 1) := by decide +kernel
theorem dX12_sizeOf_13 : decode cX12_sizeOf 13 = .ok (.invokevirtual 259, 3) := by decide +kernel
theorem dX12_sizeOf_16 : decode cX12_sizeOf 16 = .ok (.ireturn, 1) := by decide +kernel
theorem dX12_sizeOf_17 : decode cX12_sizeOf 17 = .ok (.iload_n 2, 1) := by decide +kernel
theorem dX12_sizeOf_18 : decode cX12_sizeOf 18 = .ok (.iconst 2, 1) := by decide +kernel
theorem dX12_sizeOf_19 : decode cX12_sizeOf 19 = .ok (.if_icmp .ne 9, 3) := by decide +kernel
theorem dX12_sizeOf_22 : decode cX12_sizeOf 22 = .ok (.aload_n 0, 1) := by decide +kernel
theorem dX12_sizeOf_23 : decode cX12_sizeOf 23 = .ok (.bipush 12, 2) := by decide +kernel
theorem dX12_sizeOf_25 : decode cX12_sizeOf 25 = .ok (.invokevirtual 253, 3) := by decide +kernel
theorem dX12_sizeOf_28 : decode cX12_sizeOf 28 = .ok (.aload_n 0, 1) := by decide +kernel
theorem dX12_sizeOf_29 : decode cX12_sizeOf 29 = .ok (.bipush 11, 2) := by decide +kernel
theorem dX12_sizeOf_31 : decode cX12_sizeOf 31 = .ok (.invokevirtual 253, 3) := by decide +kernel
theorem dX12_sizeOf_34 : decode cX12_sizeOf 34 = .ok (.aload_n 0, 1) := by decide +kernel
theorem dX12_sizeOf_35 : decode cX12_sizeOf 35 = .ok (.iload_n 1, 1) := by decide +kernel
theorem dX12_sizeOf_36 : decode cX12_sizeOf 36 = .ok (.invokevirtual 256, 3) := by decide +kernel
theorem dX12_sizeOf_39 : decode cX12_sizeOf 39 = .ok (.istore_n 3, 1) := by decide +kernel
theorem dX12_sizeOf_40 : decode cX12_sizeOf 40 = .ok (.iload_n 3, 1) := by decide +kernel
theorem dX12_sizeOf_41 : decode cX12_sizeOf 41 = .ok (.aload_n 0, 1) := by decide +kernel
theorem dX12_sizeOf_42 : decode cX12_sizeOf 42 = .ok (.iload_n 1, 1) := by decide +kernel
theorem dX12_sizeOf_43 : decode cX12_sizeOf 43 = .ok (.invokevirtual 262, 3) := by decide +kernel
theorem dX12_sizeOf_46 : decode cX12_sizeOf 46 = .ok (.iadd, 1) := by decide +kernel
theorem dX12_sizeOf_47 : decode cX12_sizeOf 47 = .ok (.istore_n 3, 1) := by decide +kernel
theorem dX12_sizeOf_48 : decode cX12_sizeOf 48 = .ok (.iload_n 2, 1) := by decide +kernel
theorem dX12_sizeOf_49 : decode cX12_sizeOf 49 = .ok (.iconst 2, 1) := by decide +kernel
theorem dX12_sizeOf_50 : decode cX12_sizeOf 50 = .ok (.if_icmp .ne 8, 3) := by decide +kernel
theorem dX12_sizeOf_53 : decode cX12_sizeOf 53 = .ok (.iload_n 3, 1) := by decide +kernel
theorem dX12_sizeOf_54 : decode cX12_sizeOf 54 = .ok (.ineg, 1) := by decide +kernel
theorem dX12_sizeOf_55 : decode cX12_sizeOf 55 = .ok (.goto 4, 3) := by decide +kernel
theorem dX12_sizeOf_58 : decode cX12_sizeOf 58 = .ok (.iload_n 3, 1) := by decide +kernel
theorem dX12_sizeOf_59 : decode cX12_sizeOf 59 = .ok (.ireturn, 1) := by decide +kernel
theorem dX12_ask_0 : decode cX12_ask 0 = .ok (.aload_n 0, 1) := by decide +kernel
theorem dX12_ask_1 : decode cX12_ask 1 = .ok (.iconst 0, 1) := by decide +kernel
theorem dX12_ask_2 : decode cX12_ask 2 = .ok (.putfield 53, 3) := by decide +kernel
theorem dX12_ask_5 : decode cX12_ask 5 = .ok (.aload_n 0, 1) := by decide +kernel
theorem dX12_ask_6 : decode cX12_ask 6 = .ok (.iload_n 1, 1) := by decide +kernel
theorem dX12_ask_7 : decode cX12_ask 7 = .ok (.invokevirtual 158, 3) := by decide +kernel
theorem dX12_ask_10 : decode cX12_ask 10 = .ok (.ifCond .eq 13, 3) := by decide +kernel
theorem dX12_ask_13 : decode cX12_ask 13 = .ok (.iload_n 2, 1) := by decide +kernel
theorem dX12_ask_14 : decode cX12_ask 14 = .ok (.i2l, 1) := by decide +kernel
theorem dX12_ask_15 : decode cX12_ask 15 = .ok (.lconst 0, 1) := by decide +kernel
theorem dX12_ask_16 : decode cX12_ask 16 = .ok (.lconst 1, 1) := by decide +kernel
theorem dX12_ask_17 : decode cX12_ask 17 = .ok (.invokestatic 63, 3) := by decide +kernel
theorem dX12_ask_20 : decode cX12_ask 20 = .ok (.ifCond .ne 6, 3) := by decide +kernel
theorem dX12_ask_23 : decode cX12_ask 23 = .ok (.ldc 73, 2) := by decide +kernel
theorem dX12_ask_25 : decode cX12_ask 25 = .ok (.ireturn, 1) := by decide +kernel
theorem dX12_ask_26 : decode cX12_ask 26 = .ok (.aload_n 0, 1) := by decide +kernel
theorem dX12_ask_27 : decode cX12_ask 27 = .ok (.iconst 0, 1) := by decide +kernel
theorem dX12_ask_28 : decode cX12_ask 28 = .ok (.putfield 250, 3) := by decide +kernel
theorem dX12_ask_31 : decode cX12_ask 31 = .ok (.iload_n 2, 1) := by decide +kernel
theorem dX12_ask_32 : decode cX12_ask 32 = .ok (.ifCond .ne 11, 3) := by decide +kernel
theorem dX12_ask_35 : decode cX12_ask 35 = .ok (.aload_n 0, 1) := by decide +kernel
theorem dX12_ask_36 : decode cX12_ask 36 = .ok (.iload_n 1, 1) := by decide +kernel
theorem dX12_ask_37 : decode cX12_ask 37 = .ok (.invokevirtual 265, 3) := by decide +kernel
theorem dX12_ask_40 : decode cX12_ask 40 = .ok (.goto 8, 3) := by decide +kernel
theorem dX12_ask_43 : decode cX12_ask 43 = .ok (.aload_n 0, 1) := by decide +kernel
theorem dX12_ask_44 : decode cX12_ask 44 = .ok (.iload_n 1, 1) := by decide +kernel
theorem dX12_ask_45 : decode cX12_ask 45 = .ok (.invokevirtual 262, 3) := by decide +kernel
theorem dX12_ask_48 : decode cX12_ask 48 = .ok (.ireturn, 1) := by decide +kernel
theorem dX12_trace_0 : decode cX12_trace 0 = .ok (.aload_n 0, 1) := by decide +kernel
theorem dX12_trace_1 : decode cX12_trace 1 = .ok (.iconst 0, 1) := by decide +kernel
theorem dX12_trace_2 : decode cX12_trace 2 = .ok (.putfield 53, 3) := by decide +kernel
theorem dX12_trace_5 : decode cX12_trace 5 = .ok (.iload_n 1, 1) := by decide +kernel
theorem dX12_trace_6 : decode cX12_trace 6 = .ok (.i2l, 1) := by decide +kernel
theorem dX12_trace_7 : decode cX12_trace 7 = .ok (.lconst 0, 1) := by decide +kernel
theorem dX12_trace_8 : decode cX12_trace 8 = .ok (.aload_n 0, 1) := by decide +kernel
theorem dX12_trace_9 : decode cX12_trace 9 = .ok (.getfield 250, 3) := by decide +kernel
theorem dX12_trace_12 : decode cX12_trace 12 = .ok (.iconst 1, 1) := by decide +kernel
theorem dX12_trace_13 : decode cX12_trace 13 = .ok (.isub, 1) := by decide +kernel
theorem dX12_trace_14 : decode cX12_trace 14 = .ok (.i2l, 1) := by decide +kernel
theorem dX12_trace_15 : decode cX12_trace 15 = .ok (.invokestatic 63, 3) := by decide +kernel
theorem dX12_trace_18 : decode cX12_trace 18 = .ok (.ifCond .eq 12, 3) := by decide +kernel
theorem dX12_trace_21 : decode cX12_trace 21 = .ok (.aload_n 0, 1) := by decide +kernel
theorem dX12_trace_22 : decode cX12_trace 22 = .ok (.getfield 50, 3) := by decide +kernel
theorem dX12_trace_25 : decode cX12_trace 25 = .ok (.iload_n 1, 1) := by decide +kernel
theorem dX12_trace_26 : decode cX12_trace 26 = .ok (.iaload, 1) := by decide +kernel
theorem dX12_trace_27 : decode cX12_trace 27 = .ok (.goto 5, 3) := by decide +kernel
theorem dX12_trace_30 : decode cX12_trace 30 = .ok (.ldc 96, 2) := by decide +kernel
theorem dX12_trace_32 : decode cX12_trace 32 = .ok (.ireturn, 1) := by decide +kernel
theorem dX12_count_0 : decode cX12_count 0 = .ok (.aload_n 0, 1) := by decide +kernel
theorem dX12_count_1 : decode cX12_count 1 = .ok (.iconst 0, 1) := by decide +kernel
theorem dX12_count_2 : decode cX12_count 2 = .ok (.putfield 53, 3) := by decide +kernel
theorem dX12_count_5 : decode cX12_count 5 = .ok (.iconst 0, 1) := by decide +kernel
theorem dX12_count_6 : decode cX12_count 6 = .ok (.istore_n 2, 1) := by decide +kernel
theorem dX12_count_7 : decode cX12_count 7 = .ok (.iload_n 1, 1) := by decide +kernel
theorem dX12_count_8 : decode cX12_count 8 = .ok (.tableswitch 146 0 6 #[44, 77, 84, 91, 98, 136, 141], 44) := by decide +kernel
theorem dX12_count_52 : decode cX12_count 52 = .ok (.iconst 0, 1) := by decide +kernel
theorem dX12_count_53 : decode cX12_count 53 = .ok (.istore_n 3, 1) := by decide +kernel
theorem dX12_count_54 : decode cX12_count 54 = .ok (.iload_n 3, 1) := by decide +kernel
theorem dX12_count_55 : decode cX12_count 55 = .ok (.bipush 8, 2) := by decide +kernel
theorem dX12_count_57 : decode cX12_count 57 = .ok (.if_icmp .ge 26, 3) := by decide +kernel
theorem dX12_count_60 : decode cX12_count 60 = .ok (.iload_n 2, 1) := by decide +kernel
theorem dX12_count_61 : decode cX12_count 61 = .ok (.aload_n 0, 1) := by decide +kernel
theorem dX12_count_62 : decode cX12_count 62 = .ok (.getfield 7, 3) := by decide +kernel
theorem dX12_count_65 : decode cX12_count 65 = .ok (.iload_n 3, 1) := by decide +kernel
theorem dX12_count_66 : decode cX12_count 66 = .ok (.iaload, 1) := by decide +kernel
theorem dX12_count_67 : decode cX12_count 67 = .ok (.ifCond .lt 7, 3) := by decide +kernel
theorem dX12_count_70 : decode cX12_count 70 = .ok (.iconst 1, 1) := by decide +kernel
theorem dX12_count_71 : decode cX12_count 71 = .ok (.goto 4, 3) := by decide +kernel
theorem dX12_count_74 : decode cX12_count 74 = .ok (.iconst 0, 1) := by decide +kernel
theorem dX12_count_75 : decode cX12_count 75 = .ok (.iadd, 1) := by decide +kernel
theorem dX12_count_76 : decode cX12_count 76 = .ok (.istore_n 2, 1) := by decide +kernel
theorem dX12_count_77 : decode cX12_count 77 = .ok (.iinc 3 1, 3) := by decide +kernel
theorem dX12_count_80 : decode cX12_count 80 = .ok (.goto (-26), 3) := by decide +kernel
theorem dX12_count_83 : decode cX12_count 83 = .ok (.iload_n 2, 1) := by decide +kernel
theorem dX12_count_84 : decode cX12_count 84 = .ok (.ireturn, 1) := by decide +kernel
theorem dX12_count_85 : decode cX12_count 85 = .ok (.aload_n 0, 1) := by decide +kernel
theorem dX12_count_86 : decode cX12_count 86 = .ok (.getfield 19, 3) := by decide +kernel
theorem dX12_count_89 : decode cX12_count 89 = .ok (.iconst 2, 1) := by decide +kernel
theorem dX12_count_90 : decode cX12_count 90 = .ok (.iaload, 1) := by decide +kernel
theorem dX12_count_91 : decode cX12_count 91 = .ok (.ireturn, 1) := by decide +kernel
theorem dX12_count_92 : decode cX12_count 92 = .ok (.aload_n 0, 1) := by decide +kernel
theorem dX12_count_93 : decode cX12_count 93 = .ok (.getfield 19, 3) := by decide +kernel
theorem dX12_count_96 : decode cX12_count 96 = .ok (.iconst 3, 1) := by decide +kernel
theorem dX12_count_97 : decode cX12_count 97 = .ok (.iaload, 1) := by decide +kernel
theorem dX12_count_98 : decode cX12_count 98 = .ok (.ireturn, 1) := by decide +kernel
theorem dX12_count_99 : decode cX12_count 99 = .ok (.aload_n 0, 1) := by decide +kernel
theorem dX12_count_100 : decode cX12_count 100 = .ok (.getfield 19, 3) := by decide +kernel
theorem dX12_count_103 : decode cX12_count 103 = .ok (.iconst 4, 1) := by decide +kernel
theorem dX12_count_104 : decode cX12_count 104 = .ok (.iaload, 1) := by decide +kernel
theorem dX12_count_105 : decode cX12_count 105 = .ok (.ireturn, 1) := by decide +kernel
theorem dX12_count_106 : decode cX12_count 106 = .ok (.iconst 0, 1) := by decide +kernel
theorem dX12_count_107 : decode cX12_count 107 = .ok (.istore_n 3, 1) := by decide +kernel
theorem dX12_count_108 : decode cX12_count 108 = .ok (.iload_n 3, 1) := by decide +kernel
theorem dX12_count_109 : decode cX12_count 109 = .ok (.aload_n 0, 1) := by decide +kernel
theorem dX12_count_110 : decode cX12_count 110 = .ok (.getfield 19, 3) := by decide +kernel
theorem dX12_count_113 : decode cX12_count 113 = .ok (.iconst 4, 1) := by decide +kernel
theorem dX12_count_114 : decode cX12_count 114 = .ok (.iaload, 1) := by decide +kernel
theorem dX12_count_115 : decode cX12_count 115 = .ok (.if_icmp .ge 27, 3) := by decide +kernel
theorem dX12_count_118 : decode cX12_count 118 = .ok (.iload_n 2, 1) := by decide +kernel
theorem dX12_count_119 : decode cX12_count 119 = .ok (.aload_n 0, 1) := by decide +kernel
theorem dX12_count_120 : decode cX12_count 120 = .ok (.iload_n 3, 1) := by decide +kernel
theorem dX12_count_121 : decode cX12_count 121 = .ok (.iconst 0, 1) := by decide +kernel
theorem dX12_count_122 : decode cX12_count 122 = .ok (.invokevirtual 197, 3) := by decide +kernel
theorem dX12_count_125 : decode cX12_count 125 = .ok (.iconst 1, 1) := by decide +kernel
theorem dX12_count_126 : decode cX12_count 126 = .ok (.if_icmp .ne 7, 3) := by decide +kernel
theorem dX12_count_129 : decode cX12_count 129 = .ok (.iconst 1, 1) := by decide +kernel
theorem dX12_count_130 : decode cX12_count 130 = .ok (.goto 4, 3) := by decide +kernel
theorem dX12_count_133 : decode cX12_count 133 = .ok (.iconst 0, 1) := by decide +kernel
theorem dX12_count_134 : decode cX12_count 134 = .ok (.iadd, 1) := by decide +kernel
theorem dX12_count_135 : decode cX12_count 135 = .ok (.istore_n 2, 1) := by decide +kernel
theorem dX12_count_136 : decode cX12_count 136 = .ok (.iinc 3 1, 3) := by decide +kernel
theorem dX12_count_139 : decode cX12_count 139 = .ok (.goto (-31), 3) := by decide +kernel
theorem dX12_count_142 : decode cX12_count 142 = .ok (.iload_n 2, 1) := by decide +kernel
theorem dX12_count_143 : decode cX12_count 143 = .ok (.ireturn, 1) := by decide +kernel
theorem dX12_count_144 : decode cX12_count 144 = .ok (.aload_n 0, 1) := by decide +kernel
theorem dX12_count_145 : decode cX12_count 145 = .ok (.getfield 152, 3) := by decide +kernel
theorem dX12_count_148 : decode cX12_count 148 = .ok (.ireturn, 1) := by decide +kernel
theorem dX12_count_149 : decode cX12_count 149 = .ok (.aload_n 0, 1) := by decide +kernel
theorem dX12_count_150 : decode cX12_count 150 = .ok (.getfield 80, 3) := by decide +kernel
theorem dX12_count_153 : decode cX12_count 153 = .ok (.ireturn, 1) := by decide +kernel
theorem dX12_count_154 : decode cX12_count 154 = .ok (.ldc 73, 2) := by decide +kernel
theorem dX12_count_156 : decode cX12_count 156 = .ok (.ireturn, 1) := by decide +kernel
theorem dX12_status_0 : decode cX12_status 0 = .ok (.aload_n 0, 1) := by decide +kernel
theorem dX12_status_1 : decode cX12_status 1 = .ok (.iconst 0, 1) := by decide +kernel
theorem dX12_status_2 : decode cX12_status 2 = .ok (.putfield 53, 3) := by decide +kernel
theorem dX12_status_5 : decode cX12_status 5 = .ok (.aload_n 0, 1) := by decide +kernel
theorem dX12_status_6 : decode cX12_status 6 = .ok (.getfield 57, 3) := by decide +kernel
theorem dX12_status_9 : decode cX12_status 9 = .ok (.ireturn, 1) := by decide +kernel
