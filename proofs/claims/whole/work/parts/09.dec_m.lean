theorem dX9_init_0 : decode cX9_init 0 = .ok (.aload_n 0, 1) := by decide +kernel
theorem dX9_init_1 : decode cX9_init 1 = .ok (.invokespecial 1, 3) := by decide +kernel
theorem dX9_init_4 : decode cX9_init 4 = .ok (.aload_n 0, 1) := by decide +kernel
theorem dX9_init_5 : decode cX9_init 5 = .ok (.bipush 8, 2) := by decide +kernel
theorem dX9_init_7 : decode cX9_init 7 = .ok (.newarray .int, 2) := by decide +kernel
theorem dX9_init_9 : decode cX9_init 9 = .ok (.putfield 7, 3) := by decide +kernel
theorem dX9_init_12 : decode cX9_init 12 = .ok (.aload_n 0, 1) := by decide +kernel
theorem dX9_init_13 : decode cX9_init 13 = .ok (.bipush 8, 2) := by decide +kernel
theorem dX9_init_15 : decode cX9_init 15 = .ok (.newarray .int, 2) := by decide +kernel
theorem dX9_init_17 : decode cX9_init 17 = .ok (.putfield 13, 3) := by decide +kernel
theorem dX9_init_20 : decode cX9_init 20 = .ok (.aload_n 0, 1) := by decide +kernel
theorem dX9_init_21 : decode cX9_init 21 = .ok (.bipush 24, 2) := by decide +kernel
theorem dX9_init_23 : decode cX9_init 23 = .ok (.newarray .int, 2) := by decide +kernel
theorem dX9_init_25 : decode cX9_init 25 = .ok (.putfield 16, 3) := by decide +kernel
theorem dX9_init_28 : decode cX9_init 28 = .ok (.aload_n 0, 1) := by decide +kernel
theorem dX9_init_29 : decode cX9_init 29 = .ok (.bipush 6, 2) := by decide +kernel
theorem dX9_init_31 : decode cX9_init 31 = .ok (.newarray .int, 2) := by decide +kernel
theorem dX9_init_33 : decode cX9_init 33 = .ok (.putfield 19, 3) := by decide +kernel
theorem dX9_init_36 : decode cX9_init 36 = .ok (.aload_n 0, 1) := by decide +kernel
theorem dX9_init_37 : decode cX9_init 37 = .ok (.bipush 6, 2) := by decide +kernel
theorem dX9_init_39 : decode cX9_init 39 = .ok (.newarray .int, 2) := by decide +kernel
theorem dX9_init_41 : decode cX9_init 41 = .ok (.putfield 22, 3) := by decide +kernel
theorem dX9_init_44 : decode cX9_init 44 = .ok (.aload_n 0, 1) := by decide +kernel
theorem dX9_init_45 : decode cX9_init 45 = .ok (.bipush 8, 2) := by decide +kernel
theorem dX9_init_47 : decode cX9_init 47 = .ok (.newarray .int, 2) := by decide +kernel
theorem dX9_init_49 : decode cX9_init 49 = .ok (.putfield 25, 3) := by decide +kernel
theorem dX9_init_52 : decode cX9_init 52 = .ok (.aload_n 0, 1) := by decide +kernel
theorem dX9_init_53 : decode cX9_init 53 = .ok (.bipush 8, 2) := by decide +kernel
theorem dX9_init_55 : decode cX9_init 55 = .ok (.newarray .int, 2) := by decide +kernel
theorem dX9_init_57 : decode cX9_init 57 = .ok (.putfield 28, 3) := by decide +kernel
theorem dX9_init_60 : decode cX9_init 60 = .ok (.aload_n 0, 1) := by decide +kernel
theorem dX9_init_61 : decode cX9_init 61 = .ok (.bipush 60, 2) := by decide +kernel
theorem dX9_init_63 : decode cX9_init 63 = .ok (.newarray .int, 2) := by decide +kernel
theorem dX9_init_65 : decode cX9_init 65 = .ok (.putfield 31, 3) := by decide +kernel
theorem dX9_init_68 : decode cX9_init 68 = .ok (.aload_n 0, 1) := by decide +kernel
theorem dX9_init_69 : decode cX9_init 69 = .ok (.bipush 60, 2) := by decide +kernel
theorem dX9_init_71 : decode cX9_init 71 = .ok (.newarray .int, 2) := by decide +kernel
theorem dX9_init_73 : decode cX9_init 73 = .ok (.putfield 34, 3) := by decide +kernel
theorem dX9_init_76 : decode cX9_init 76 = .ok (.aload_n 0, 1) := by decide +kernel
theorem dX9_init_77 : decode cX9_init 77 = .ok (.bipush 60, 2) := by decide +kernel
theorem dX9_init_79 : decode cX9_init 79 = .ok (.newarray .int, 2) := by decide +kernel
theorem dX9_init_81 : decode cX9_init 81 = .ok (.putfield 37, 3) := by decide +kernel
theorem dX9_init_84 : decode cX9_init 84 = .ok (.aload_n 0, 1) := by decide +kernel
theorem dX9_init_85 : decode cX9_init 85 = .ok (.bipush 60, 2) := by decide +kernel
theorem dX9_init_87 : decode cX9_init 87 = .ok (.newarray .int, 2) := by decide +kernel
theorem dX9_init_89 : decode cX9_init 89 = .ok (.putfield 40, 3) := by decide +kernel
theorem dX9_init_92 : decode cX9_init 92 = .ok (.aload_n 0, 1) := by decide +kernel
theorem dX9_init_93 : decode cX9_init 93 = .ok (.bipush 11, 2) := by decide +kernel
theorem dX9_init_95 : decode cX9_init 95 = .ok (.newarray .int, 2) := by decide +kernel
theorem dX9_init_97 : decode cX9_init 97 = .ok (.putfield 43, 3) := by decide +kernel
theorem dX9_init_100 : decode cX9_init 100 = .ok (.aload_n 0, 1) := by decide +kernel
theorem dX9_init_101 : decode cX9_init 101 = .ok (.bipush 64, 2) := by decide +kernel
theorem dX9_init_103 : decode cX9_init 103 = .ok (.newarray .int, 2) := by decide +kernel
theorem dX9_init_105 : decode cX9_init 105 = .ok (.putfield 46, 3) := by decide +kernel
theorem dX9_init_108 : decode cX9_init 108 = .ok (.aload_n 0, 1) := by decide +kernel
theorem dX9_init_109 : decode cX9_init 109 = .ok (.bipush 6, 2) := by decide +kernel
theorem dX9_init_111 : decode cX9_init 111 = .ok (.newarray .int, 2) := by decide +kernel
theorem dX9_init_113 : decode cX9_init 113 = .ok (.putfield 49, 3) := by decide +kernel
theorem dX9_init_116 : decode cX9_init 116 = .ok (.aload_n 0, 1) := by decide +kernel
theorem dX9_init_117 : decode cX9_init 117 = .ok (.bipush 16, 2) := by decide +kernel
theorem dX9_init_119 : decode cX9_init 119 = .ok (.newarray .int, 2) := by decide +kernel
theorem dX9_init_121 : decode cX9_init 121 = .ok (.putfield 52, 3) := by decide +kernel
theorem dX9_init_124 : decode cX9_init 124 = .ok (.aload_n 0, 1) := by decide +kernel
theorem dX9_init_125 : decode cX9_init 125 = .ok (.iconst 4, 1) := by decide +kernel
theorem dX9_init_126 : decode cX9_init 126 = .ok (.newarray .int, 2) := by decide +kernel
theorem dX9_init_128 : decode cX9_init 128 = .ok (.putfield 55, 3) := by decide +kernel
theorem dX9_init_131 : decode cX9_init 131 = .ok (.aload_n 0, 1) := by decide +kernel
theorem dX9_init_132 : decode cX9_init 132 = .ok (.bipush 19, 2) := by decide +kernel
theorem dX9_init_134 : decode cX9_init 134 = .ok (.newarray .int, 2) := by decide +kernel
theorem dX9_init_136 : decode cX9_init 136 = .ok (.putfield 58, 3) := by decide +kernel
theorem dX9_init_139 : decode cX9_init 139 = .ok (.aload_n 0, 1) := by decide +kernel
theorem dX9_init_140 : decode cX9_init 140 = .ok (.bipush 10, 2) := by decide +kernel
theorem dX9_init_142 : decode cX9_init 142 = .ok (.newarray .long, 2) := by decide +kernel
theorem dX9_init_144 : decode cX9_init 144 = .ok (.putfield 61, 3) := by decide +kernel
theorem dX9_init_147 : decode cX9_init 147 = .ok (.aload_n 0, 1) := by decide +kernel
theorem dX9_init_148 : decode cX9_init 148 = .ok (.bipush 10, 2) := by decide +kernel
theorem dX9_init_150 : decode cX9_init 150 = .ok (.newarray .long, 2) := by decide +kernel
theorem dX9_init_152 : decode cX9_init 152 = .ok (.putfield 65, 3) := by decide +kernel
theorem dX9_init_155 : decode cX9_init 155 = .ok (.aload_n 0, 1) := by decide +kernel
theorem dX9_init_156 : decode cX9_init 156 = .ok (.sipush 180, 3) := by decide +kernel
theorem dX9_init_159 : decode cX9_init 159 = .ok (.newarray .int, 2) := by decide +kernel
theorem dX9_init_161 : decode cX9_init 161 = .ok (.putfield 68, 3) := by decide +kernel
theorem dX9_init_164 : decode cX9_init 164 = .ok (.aload_n 0, 1) := by decide +kernel
theorem dX9_init_165 : decode cX9_init 165 = .ok (.iconst 2, 1) := by decide +kernel
theorem dX9_init_166 : decode cX9_init 166 = .ok (.newarray .boolean, 2) := by decide +kernel
theorem dX9_init_168 : decode cX9_init 168 = .ok (.putfield 71, 3) := by decide +kernel
theorem dX9_init_171 : decode cX9_init 171 = .ok (.return_, 1) := by decide +kernel
theorem dX9_in_0 : decode cX9_in 0 = .ok (.lload_n 0, 1) := by decide +kernel
theorem dX9_in_1 : decode cX9_in 1 = .ok (.lload_n 2, 1) := by decide +kernel
theorem dX9_in_2 : decode cX9_in 2 = .ok (.lcmp, 1) := by decide +kernel
theorem dX9_in_3 : decode cX9_in 3 = .ok (.ifCond .lt 14, 3) := by decide +kernel
theorem dX9_in_6 : decode cX9_in 6 = .ok (.lload_n 0, 1) := by decide +kernel
theorem dX9_in_7 : decode cX9_in 7 = .ok (.lload 4, 2) := by decide +kernel
theorem dX9_in_9 : decode cX9_in 9 = .ok (.lcmp, 1) := by decide +kernel
theorem dX9_in_10 : decode cX9_in 10 = .ok (.ifCond .gt 7, 3) := by decide +kernel
theorem dX9_in_13 : decode cX9_in 13 = .ok (.iconst 1, 1) := by decide +kernel
theorem dX9_in_14 : decode cX9_in 14 = .ok (.goto 4, 3) := by decide +kernel
theorem dX9_in_17 : decode cX9_in 17 = .ok (.iconst 0, 1) := by decide +kernel
theorem dX9_in_18 : decode cX9_in 18 = .ok (.ireturn, 1) := by decide +kernel
theorem dX9_bitsOf_0 : decode cX9_bitsOf 0 = .ok (.iconst 0, 1) := by decide +kernel
theorem dX9_bitsOf_1 : decode cX9_bitsOf 1 = .ok (.istore_n 1, 1) := by decide +kernel
theorem dX9_bitsOf_2 : decode cX9_bitsOf 2 = .ok (.iload_n 0, 1) := by decide +kernel
theorem dX9_bitsOf_3 : decode cX9_bitsOf 3 = .ok (.istore_n 2, 1) := by decide +kernel
theorem dX9_bitsOf_4 : decode cX9_bitsOf 4 = .ok (.iload_n 2, 1) := by decide +kernel
theorem dX9_bitsOf_5 : decode cX9_bitsOf 5 = .ok (.ifCond .eq 15, 3) := by decide +kernel
theorem dX9_bitsOf_8 : decode cX9_bitsOf 8 = .ok (.iinc 1 1, 3) := by decide +kernel
theorem dX9_bitsOf_11 : decode cX9_bitsOf 11 = .ok (.iload_n 2, 1) := by decide +kernel
theorem dX9_bitsOf_12 : decode cX9_bitsOf 12 = .ok (.iload_n 2, 1) := by decide +kernel
theorem dX9_bitsOf_13 : decode cX9_bitsOf 13 = .ok (.iconst 1, 1) := by decide +kernel
theorem dX9_bitsOf_14 : decode cX9_bitsOf 14 = .ok (.isub, 1) := by decide +kernel
theorem dX9_bitsOf_15 : decode cX9_bitsOf 15 = .ok (.iand, 1) := by decide +kernel
theorem dX9_bitsOf_16 : decode cX9_bitsOf 16 = .ok (.istore_n 2, 1) := by decide +kernel
theorem dX9_bitsOf_17 : decode cX9_bitsOf 17 = .ok (.goto (-13), 3) := by decide +kernel
theorem dX9_bitsOf_20 : decode cX9_bitsOf 20 = .ok (.iload_n 1, 1) := by decide +kernel
theorem dX9_bitsOf_21 : decode cX9_bitsOf 21 = .ok (.ireturn, 1) := by decide +kernel
theorem dX9_isSinger_0 : decode cX9_isSinger 0 = .ok (.iload_n 1, 1) := by decide +kernel
theorem dX9_isSinger_1 : decode cX9_isSinger 1 = .ok (.i2l, 1) := by decide +kernel
theorem dX9_isSinger_2 : decode cX9_isSinger 2 = .ok (.lconst 0, 1) := by decide +kernel
theorem dX9_isSinger_3 : decode cX9_isSinger 3 = .ok (.ldc2_w 75, 3) := by decide +kernel
theorem dX9_isSinger_6 : decode cX9_isSinger 6 = .ok (.invokestatic 77, 3) := by decide +kernel
theorem dX9_isSinger_9 : decode cX9_isSinger 9 = .ok (.ifCond .eq 19, 3) := by decide +kernel
theorem dX9_isSinger_12 : decode cX9_isSinger 12 = .ok (.aload_n 0, 1) := by decide +kernel
theorem dX9_isSinger_13 : decode cX9_isSinger 13 = .ok (.getfield 81, 3) := by decide +kernel
theorem dX9_isSinger_16 : decode cX9_isSinger 16 = .ok (.iload_n 1, 1) := by decide +kernel
theorem dX9_isSinger_17 : decode cX9_isSinger 17 = .ok (.ishr, 1) := by decide +kernel
theorem dX9_isSinger_18 : decode cX9_isSinger 18 = .ok (.iconst 1, 1) := by decide +kernel
theorem dX9_isSinger_19 : decode cX9_isSinger 19 = .ok (.iand, 1) := by decide +kernel
theorem dX9_isSinger_20 : decode cX9_isSinger 20 = .ok (.iconst 1, 1) := by decide +kernel
theorem dX9_isSinger_21 : decode cX9_isSinger 21 = .ok (.if_icmp .ne 7, 3) := by decide +kernel
theorem dX9_isSinger_24 : decode cX9_isSinger 24 = .ok (.iconst 1, 1) := by decide +kernel
theorem dX9_isSinger_25 : decode cX9_isSinger 25 = .ok (.goto 4, 3) := by decide +kernel
theorem dX9_isSinger_28 : decode cX9_isSinger 28 = .ok (.iconst 0, 1) := by decide +kernel
theorem dX9_isSinger_29 : decode cX9_isSinger 29 = .ok (.ireturn, 1) := by decide +kernel
theorem dX9_singer_0 : decode cX9_singer 0 = .ok (.iload_n 1, 1) := by decide +kernel
theorem dX9_singer_1 : decode cX9_singer 1 = .ok (.i2l, 1) := by decide +kernel
theorem dX9_singer_2 : decode cX9_singer 2 = .ok (.lconst 0, 1) := by decide +kernel
theorem dX9_singer_3 : decode cX9_singer 3 = .ok (.ldc2_w 75, 3) := by decide +kernel
theorem dX9_singer_6 : decode cX9_singer 6 = .ok (.invokestatic 77, 3) := by decide +kernel
theorem dX9_singer_9 : decode cX9_singer 9 = .ok (.ifCond .ne 5, 3) := by decide +kernel
theorem dX9_singer_12 : decode cX9_singer 12 = .ok (.iconst (-1), 1) := by decide +kernel
theorem dX9_singer_13 : decode cX9_singer 13 = .ok (.ireturn, 1) := by decide +kernel
theorem dX9_singer_14 : decode cX9_singer 14 = .ok (.iload_n 2, 1) := by decide +kernel
theorem dX9_singer_15 : decode cX9_singer 15 = .ok (.i2l, 1) := by decide +kernel
theorem dX9_singer_16 : decode cX9_singer 16 = .ok (.lconst 0, 1) := by decide +kernel
theorem dX9_singer_17 : decode cX9_singer 17 = .ok (.ldc2_w 85, 3) := by decide +kernel
theorem dX9_singer_20 : decode cX9_singer 20 = .ok (.invokestatic 77, 3) := by decide +kernel
theorem dX9_singer_23 : decode cX9_singer 23 = .ok (.ifCond .eq 15, 3) := by decide +kernel
theorem dX9_singer_26 : decode cX9_singer 26 = .ok (.iload_n 3, 1) := by decide +kernel
theorem dX9_singer_27 : decode cX9_singer 27 = .ok (.i2l, 1) := by decide +kernel
theorem dX9_singer_28 : decode cX9_singer 28 = .ok (.lconst 0, 1) := by decide +kernel
theorem dX9_singer_29 : decode cX9_singer 29 = .ok (.ldc2_w 87, 3) := by decide +kernel
theorem dX9_singer_32 : decode cX9_singer 32 = .ok (.invokestatic 77, 3) := by decide +kernel
theorem dX9_singer_35 : decode cX9_singer 35 = .ok (.ifCond .ne 6, 3) := by decide +kernel
theorem dX9_singer_38 : decode cX9_singer 38 = .ok (.bipush (-2), 2) := by decide +kernel
theorem dX9_singer_40 : decode cX9_singer 40 = .ok (.ireturn, 1) := by decide +kernel
theorem dX9_singer_41 : decode cX9_singer 41 = .ok (.aload_n 0, 1) := by decide +kernel
theorem dX9_singer_42 : decode cX9_singer 42 = .ok (.dup, 1) := by decide +kernel
theorem dX9_singer_43 : decode cX9_singer 43 = .ok (.getfield 81, 3) := by decide +kernel
theorem dX9_singer_46 : decode cX9_singer 46 = .ok (.iconst 1, 1) := by decide +kernel
theorem dX9_singer_47 : decode cX9_singer 47 = .ok (.iload_n 1, 1) := by decide +kernel
theorem dX9_singer_48 : decode cX9_singer 48 = .ok (.ishl, 1) := by decide +kernel
theorem dX9_singer_49 : decode cX9_singer 49 = .ok (.ior, 1) := by decide +kernel
theorem dX9_singer_50 : decode cX9_singer 50 = .ok (.putfield 81, 3) := by decide +kernel
theorem dX9_singer_53 : decode cX9_singer 53 = .ok (.aload_n 0, 1) := by decide +kernel
theorem dX9_singer_54 : decode cX9_singer 54 = .ok (.dup, 1) := by decide +kernel
theorem dX9_singer_55 : decode cX9_singer 55 = .ok (.getfield 89, 3) := by decide +kernel
theorem dX9_singer_58 : decode cX9_singer 58 = .ok (.iconst 1, 1) := by decide +kernel
theorem dX9_singer_59 : decode cX9_singer 59 = .ok (.iload_n 1, 1) := by decide +kernel
theorem dX9_singer_60 : decode cX9_singer 60 = .ok (.ishl, 1) := by decide +kernel
theorem dX9_singer_61 : decode cX9_singer 61 = .ok (.iconst (-1), 1) := by decide +kernel
theorem dX9_singer_62 : decode cX9_singer 62 = .ok (.ixor, 1) := by decide +kernel
theorem dX9_singer_63 : decode cX9_singer 63 = .ok (.iand, 1) := by decide +kernel
theorem dX9_singer_64 : decode cX9_singer 64 = .ok (.putfield 89, 3) := by decide +kernel
theorem dX9_singer_67 : decode cX9_singer 67 = .ok (.aload_n 0, 1) := by decide +kernel
theorem dX9_singer_68 : decode cX9_singer 68 = .ok (.dup, 1) := by decide +kernel
theorem dX9_singer_69 : decode cX9_singer 69 = .ok (.getfield 92, 3) := by decide +kernel
theorem dX9_singer_72 : decode cX9_singer 72 = .ok (.iconst 1, 1) := by decide +kernel
theorem dX9_singer_73 : decode cX9_singer 73 = .ok (.iload_n 1, 1) := by decide +kernel
theorem dX9_singer_74 : decode cX9_singer 74 = .ok (.ishl, 1) := by decide +kernel
theorem dX9_singer_75 : decode cX9_singer 75 = .ok (.iconst (-1), 1) := by decide +kernel
theorem dX9_singer_76 : decode cX9_singer 76 = .ok (.ixor, 1) := by decide +kernel
theorem dX9_singer_77 : decode cX9_singer 77 = .ok (.iand, 1) := by decide +kernel
theorem dX9_singer_78 : decode cX9_singer 78 = .ok (.putfield 92, 3) := by decide +kernel
theorem dX9_singer_81 : decode cX9_singer 81 = .ok (.aload_n 0, 1) := by decide +kernel
theorem dX9_singer_82 : decode cX9_singer 82 = .ok (.getfield 7, 3) := by decide +kernel
theorem dX9_singer_85 : decode cX9_singer 85 = .ok (.iload_n 1, 1) := by decide +kernel
theorem dX9_singer_86 : decode cX9_singer 86 = .ok (.iload_n 2, 1) := by decide +kernel
theorem dX9_singer_87 : decode cX9_singer 87 = .ok (.iastore, 1) := by decide +kernel
theorem dX9_singer_88 : decode cX9_singer 88 = .ok (.aload_n 0, 1) := by decide +kernel
theorem dX9_singer_89 : decode cX9_singer 89 = .ok (.getfield 13, 3) := by decide +kernel
theorem dX9_singer_92 : decode cX9_singer 92 = .ok (.iload_n 1, 1) := by decide +kernel
theorem dX9_singer_93 : decode cX9_singer 93 = .ok (.iload_n 3, 1) := by decide +kernel
theorem dX9_singer_94 : decode cX9_singer 94 = .ok (.iastore, 1) := by decide +kernel
theorem dX9_singer_95 : decode cX9_singer 95 = .ok (.aload_n 0, 1) := by decide +kernel
theorem dX9_singer_96 : decode cX9_singer 96 = .ok (.getfield 81, 3) := by decide +kernel
theorem dX9_singer_99 : decode cX9_singer 99 = .ok (.invokestatic 95, 3) := by decide +kernel
theorem dX9_singer_102 : decode cX9_singer 102 = .ok (.ireturn, 1) := by decide +kernel
theorem dX9_leave_0 : decode cX9_leave 0 = .ok (.aload_n 0, 1) := by decide +kernel
theorem dX9_leave_1 : decode cX9_leave 1 = .ok (.iload_n 1, 1) := by decide +kernel
theorem dX9_leave_2 : decode cX9_leave 2 = .ok (.invokevirtual 99, 3) := by decide +kernel
theorem dX9_leave_5 : decode cX9_leave 5 = .ok (.ifCond .ne 5, 3) := by decide +kernel
theorem dX9_leave_8 : decode cX9_leave 8 = .ok (.iconst (-1), 1) := by decide +kernel
theorem dX9_leave_9 : decode cX9_leave 9 = .ok (.ireturn, 1) := by decide +kernel
theorem dX9_leave_10 : decode cX9_leave 10 = .ok (.aload_n 0, 1) := by decide +kernel
theorem dX9_leave_11 : decode cX9_leave 11 = .ok (.dup, 1) := by decide +kernel
theorem dX9_leave_12 : decode cX9_leave 12 = .ok (.getfield 81, 3) := by decide +kernel
theorem dX9_leave_15 : decode cX9_leave 15 = .ok (.iconst 1, 1) := by decide +kernel
theorem dX9_leave_16 : decode cX9_leave 16 = .ok (.iload_n 1, 1) := by decide +kernel
theorem dX9_leave_17 : decode cX9_leave 17 = .ok (.ishl, 1) := by decide +kernel
theorem dX9_leave_18 : decode cX9_leave 18 = .ok (.iconst (-1), 1) := by decide +kernel
theorem dX9_leave_19 : decode cX9_leave 19 = .ok (.ixor, 1) := by decide +kernel
theorem dX9_leave_20 : decode cX9_leave 20 = .ok (.iand, 1) := by decide +kernel
theorem dX9_leave_21 : decode cX9_leave 21 = .ok (.putfield 81, 3) := by decide +kernel
theorem dX9_leave_24 : decode cX9_leave 24 = .ok (.aload_n 0, 1) := by decide +kernel
theorem dX9_leave_25 : decode cX9_leave 25 = .ok (.getfield 81, 3) := by decide +kernel
theorem dX9_leave_28 : decode cX9_leave 28 = .ok (.invokestatic 95, 3) := by decide +kernel
theorem dX9_leave_31 : decode cX9_leave 31 = .ok (.ireturn, 1) := by decide +kernel
theorem dX9_areNeeds_0 : decode cX9_areNeeds 0 = .ok (.iload_n 0, 1) := by decide +kernel
theorem dX9_areNeeds_1 : decode cX9_areNeeds 1 = .ok (.i2l, 1) := by decide +kernel
theorem dX9_areNeeds_2 : decode cX9_areNeeds 2 = .ok (.lconst 0, 1) := by decide +kernel
theorem dX9_areNeeds_3 : decode cX9_areNeeds 3 = .ok (.ldc2_w 103, 3) := by decide +kernel
theorem dX9_areNeeds_6 : decode cX9_areNeeds 6 = .ok (.invokestatic 77, 3) := by decide +kernel
theorem dX9_areNeeds_9 : decode cX9_areNeeds 9 = .ok (.istore_n 1, 1) := by decide +kernel
theorem dX9_areNeeds_10 : decode cX9_areNeeds 10 = .ok (.iload_n 0, 1) := by decide +kernel
theorem dX9_areNeeds_11 : decode cX9_areNeeds 11 = .ok (.istore_n 2, 1) := by decide +kernel
theorem dX9_areNeeds_12 : decode cX9_areNeeds 12 = .ok (.iconst 0, 1) := by decide +kernel
theorem dX9_areNeeds_13 : decode cX9_areNeeds 13 = .ok (.istore_n 3, 1) := by decide +kernel
theorem dX9_areNeeds_14 : decode cX9_areNeeds 14 = .ok (.iload_n 3, 1) := by decide +kernel
theorem dX9_areNeeds_15 : decode cX9_areNeeds 15 = .ok (.iconst 4, 1) := by decide +kernel
theorem dX9_areNeeds_16 : decode cX9_areNeeds 16 = .ok (.if_icmp .ge 39, 3) := by decide +kernel
theorem dX9_areNeeds_19 : decode cX9_areNeeds 19 = .ok (.iload_n 1, 1) := by decide +kernel
theorem dX9_areNeeds_20 : decode cX9_areNeeds 20 = .ok (.ifCond .eq 22, 3) := by decide +kernel
theorem dX9_areNeeds_23 : decode cX9_areNeeds 23 = .ok (.iload_n 2, 1) := by decide +kernel
theorem dX9_areNeeds_24 : decode cX9_areNeeds 24 = .ok (.bipush 10, 2) := by decide +kernel
theorem dX9_areNeeds_26 : decode cX9_areNeeds 26 = .ok (.irem, 1) := by decide +kernel
theorem dX9_areNeeds_27 : decode cX9_areNeeds 27 = .ok (.i2l, 1) := by decide +kernel
theorem dX9_areNeeds_28 : decode cX9_areNeeds 28 = .ok (.lconst 0, 1) := by decide +kernel
theorem dX9_areNeeds_29 : decode cX9_areNeeds 29 = .ok (.ldc2_w 85, 3) := by decide +kernel
theorem dX9_areNeeds_32 : decode cX9_areNeeds 32 = .ok (.invokestatic 77, 3) := by decide +kernel
theorem dX9_areNeeds_35 : decode cX9_areNeeds 35 = .ok (.ifCond .eq 7, 3) := by decide +kernel
theorem dX9_areNeeds_38 : decode cX9_areNeeds 38 = .ok (.iconst 1, 1) := by decide +kernel
theorem dX9_areNeeds_39 : decode cX9_areNeeds 39 = .ok (.goto 4, 3) := by decide +kernel
theorem dX9_areNeeds_42 : decode cX9_areNeeds 42 = .ok (.iconst 0, 1) := by decide +kernel
theorem dX9_areNeeds_43 : decode cX9_areNeeds 43 = .ok (.istore_n 1, 1) := by decide +kernel
theorem dX9_areNeeds_44 : decode cX9_areNeeds 44 = .ok (.iload_n 2, 1) := by decide +kernel
theorem dX9_areNeeds_45 : decode cX9_areNeeds 45 = .ok (.bipush 10, 2) := by decide +kernel
theorem dX9_areNeeds_47 : decode cX9_areNeeds 47 = .ok (.idiv, 1) := by decide +kernel
theorem dX9_areNeeds_48 : decode cX9_areNeeds 48 = .ok (.istore_n 2, 1) := by decide +kernel
theorem dX9_areNeeds_49 : decode cX9_areNeeds 49 = .ok (.iinc 3 1, 3) := by decide +kernel
theorem dX9_areNeeds_52 : decode cX9_areNeeds 52 = .ok (.goto (-38), 3) := by decide +kernel
theorem dX9_areNeeds_55 : decode cX9_areNeeds 55 = .ok (.iload_n 1, 1) := by decide +kernel
theorem dX9_areNeeds_56 : decode cX9_areNeeds 56 = .ok (.ireturn, 1) := by decide +kernel
theorem dX9_piece_0 : decode cX9_piece 0 = .ok (.iload_n 1, 1) := by decide +kernel
theorem dX9_piece_1 : decode cX9_piece 1 = .ok (.i2l, 1) := by decide +kernel
theorem dX9_piece_2 : decode cX9_piece 2 = .ok (.lconst 0, 1) := by decide +kernel
theorem dX9_piece_3 : decode cX9_piece 3 = .ok (.ldc2_w 105, 3) := by decide +kernel
theorem dX9_piece_6 : decode cX9_piece 6 = .ok (.invokestatic 77, 3) := by decide +kernel
theorem dX9_piece_9 : decode cX9_piece 9 = .ok (.ifCond .ne 5, 3) := by decide +kernel
theorem dX9_piece_12 : decode cX9_piece 12 = .ok (.iconst (-1), 1) := by decide +kernel
theorem dX9_piece_13 : decode cX9_piece 13 = .ok (.ireturn, 1) := by decide +kernel
theorem dX9_piece_14 : decode cX9_piece 14 = .ok (.iload_n 2, 1) := by decide +kernel
theorem dX9_piece_15 : decode cX9_piece 15 = .ok (.invokestatic 107, 3) := by decide +kernel
theorem dX9_piece_18 : decode cX9_piece 18 = .ok (.ifCond .eq 28, 3) := by decide +kernel
theorem dX9_piece_21 : decode cX9_piece 21 = .ok (.iload_n 3, 1) := by decide +kernel
theorem dX9_piece_22 : decode cX9_piece 22 = .ok (.i2l, 1) := by decide +kernel
theorem dX9_piece_23 : decode cX9_piece 23 = .ok (.lconst 0, 1) := by decide +kernel
theorem dX9_piece_24 : decode cX9_piece 24 = .ok (.ldc2_w 110, 3) := by decide +kernel
theorem dX9_piece_27 : decode cX9_piece 27 = .ok (.invokestatic 77, 3) := by decide +kernel
theorem dX9_piece_30 : decode cX9_piece 30 = .ok (.ifCond .eq 16, 3) := by decide +kernel
theorem dX9_piece_33 : decode cX9_piece 33 = .ok (.iload 4, 2) := by decide +kernel
theorem dX9_piece_35 : decode cX9_piece 35 = .ok (.i2l, 1) := by decide +kernel
theorem dX9_piece_36 : decode cX9_piece 36 = .ok (.lconst 0, 1) := by decide +kernel
theorem dX9_piece_37 : decode cX9_piece 37 = .ok (.ldc2_w 112, 3) := by decide +kernel
theorem dX9_piece_40 : decode cX9_piece 40 = .ok (.invokestatic 77, 3) := by decide +kernel
theorem dX9_piece_43 : decode cX9_piece 43 = .ok (.ifCond .ne 6, 3) := by decide +kernel
theorem dX9_piece_46 : decode cX9_piece 46 = .ok (.bipush (-2), 2) := by decide +kernel
theorem dX9_piece_48 : decode cX9_piece 48 = .ok (.ireturn, 1) := by decide +kernel
theorem dX9_piece_49 : decode cX9_piece 49 = .ok (.aload_n 0, 1) := by decide +kernel
theorem dX9_piece_50 : decode cX9_piece 50 = .ok (.getfield 19, 3) := by decide +kernel
theorem dX9_piece_53 : decode cX9_piece 53 = .ok (.iload_n 1, 1) := by decide +kernel
theorem dX9_piece_54 : decode cX9_piece 54 = .ok (.iaload, 1) := by decide +kernel
theorem dX9_piece_55 : decode cX9_piece 55 = .ok (.istore 5, 2) := by decide +kernel
theorem dX9_piece_57 : decode cX9_piece 57 = .ok (.iload_n 2, 1) := by decide +kernel
theorem dX9_piece_58 : decode cX9_piece 58 = .ok (.istore 6, 2) := by decide +kernel
theorem dX9_piece_60 : decode cX9_piece 60 = .ok (.iconst 3, 1) := by decide +kernel
theorem dX9_piece_61 : decode cX9_piece 61 = .ok (.istore 7, 2) := by decide +kernel
theorem dX9_piece_63 : decode cX9_piece 63 = .ok (.iload 7, 2) := by decide +kernel
theorem dX9_piece_65 : decode cX9_piece 65 = .ok (.ifCond .lt 32, 3) := by decide +kernel
theorem dX9_piece_68 : decode cX9_piece 68 = .ok (.aload_n 0, 1) := by decide +kernel
theorem dX9_piece_69 : decode cX9_piece 69 = .ok (.getfield 16, 3) := by decide +kernel
theorem dX9_piece_72 : decode cX9_piece 72 = .ok (.iconst 4, 1) := by decide +kernel
theorem dX9_piece_73 : decode cX9_piece 73 = .ok (.iload_n 1, 1) := by decide +kernel
theorem dX9_piece_74 : decode cX9_piece 74 = .ok (.imul, 1) := by decide +kernel
theorem dX9_piece_75 : decode cX9_piece 75 = .ok (.iload 7, 2) := by decide +kernel
theorem dX9_piece_77 : decode cX9_piece 77 = .ok (.iadd, 1) := by decide +kernel
theorem dX9_piece_78 : decode cX9_piece 78 = .ok (.iload 6, 2) := by decide +kernel
theorem dX9_piece_80 : decode cX9_piece 80 = .ok (.bipush 10, 2) := by decide +kernel
theorem dX9_piece_82 : decode cX9_piece 82 = .ok (.irem, 1) := by decide +kernel
theorem dX9_piece_83 : decode cX9_piece 83 = .ok (.iastore, 1) := by decide +kernel
theorem dX9_piece_84 : decode cX9_piece 84 = .ok (.iload 6, 2) := by decide +kernel
theorem dX9_piece_86 : decode cX9_piece 86 = .ok (.bipush 10, 2) := by decide +kernel
theorem dX9_piece_88 : decode cX9_piece 88 = .ok (.idiv, 1) := by decide +kernel
theorem dX9_piece_89 : decode cX9_piece 89 = .ok (.istore 6, 2) := by decide +kernel
theorem dX9_piece_91 : decode cX9_piece 91 = .ok (.iinc 7 (-1), 3) := by decide +kernel
theorem dX9_piece_94 : decode cX9_piece 94 = .ok (.goto (-31), 3) := by decide +kernel
theorem dX9_piece_97 : decode cX9_piece 97 = .ok (.aload_n 0, 1) := by decide +kernel
theorem dX9_piece_98 : decode cX9_piece 98 = .ok (.getfield 19, 3) := by decide +kernel
theorem dX9_piece_101 : decode cX9_piece 101 = .ok (.iload_n 1, 1) := by decide +kernel
theorem dX9_piece_102 : decode cX9_piece 102 = .ok (.iload_n 3, 1) := by decide +kernel
theorem dX9_piece_103 : decode cX9_piece 103 = .ok (.iastore, 1) := by decide +kernel
theorem dX9_piece_104 : decode cX9_piece 104 = .ok (.aload_n 0, 1) := by decide +kernel
theorem dX9_piece_105 : decode cX9_piece 105 = .ok (.getfield 22, 3) := by decide +kernel
theorem dX9_piece_108 : decode cX9_piece 108 = .ok (.iload_n 1, 1) := by decide +kernel
theorem dX9_piece_109 : decode cX9_piece 109 = .ok (.iload 4, 2) := by decide +kernel
theorem dX9_piece_111 : decode cX9_piece 111 = .ok (.iastore, 1) := by decide +kernel
theorem dX9_piece_112 : decode cX9_piece 112 = .ok (.iload 5, 2) := by decide +kernel
theorem dX9_piece_114 : decode cX9_piece 114 = .ok (.ireturn, 1) := by decide +kernel
theorem dX9_say_0 : decode cX9_say 0 = .ok (.iload_n 1, 1) := by decide +kernel
theorem dX9_say_1 : decode cX9_say 1 = .ok (.i2l, 1) := by decide +kernel
theorem dX9_say_2 : decode cX9_say 2 = .ok (.ldc2_w 114, 3) := by decide +kernel
theorem dX9_say_5 : decode cX9_say 5 = .ok (.ldc2_w 116, 3) := by decide +kernel
theorem dX9_say_8 : decode cX9_say 8 = .ok (.invokestatic 77, 3) := by decide +kernel
theorem dX9_say_11 : decode cX9_say 11 = .ok (.ifCond .ne 6, 3) := by decide +kernel
theorem dX9_say_14 : decode cX9_say 14 = .ok (.bipush (-2), 2) := by decide +kernel
theorem dX9_say_16 : decode cX9_say 16 = .ok (.ireturn, 1) := by decide +kernel
theorem dX9_say_17 : decode cX9_say 17 = .ok (.aload_n 0, 1) := by decide +kernel
theorem dX9_say_18 : decode cX9_say 18 = .ok (.getfield 118, 3) := by decide +kernel
theorem dX9_say_21 : decode cX9_say 21 = .ok (.bipush 60, 2) := by decide +kernel
theorem dX9_say_23 : decode cX9_say 23 = .ok (.if_icmp .ne 6, 3) := by decide +kernel
theorem dX9_say_26 : decode cX9_say 26 = .ok (.bipush (-4), 2) := by decide +kernel
theorem dX9_say_28 : decode cX9_say 28 = .ok (.ireturn, 1) := by decide +kernel
theorem dX9_say_29 : decode cX9_say 29 = .ok (.aload_n 0, 1) := by decide +kernel
theorem dX9_say_30 : decode cX9_say 30 = .ok (.getfield 31, 3) := by decide +kernel
theorem dX9_say_33 : decode cX9_say 33 = .ok (.aload_n 0, 1) := by decide +kernel
theorem dX9_say_34 : decode cX9_say 34 = .ok (.getfield 118, 3) := by decide +kernel
theorem dX9_say_37 : decode cX9_say 37 = .ok (.iload_n 1, 1) := by decide +kernel
theorem dX9_say_38 : decode cX9_say 38 = .ok (.iastore, 1) := by decide +kernel
theorem dX9_say_39 : decode cX9_say 39 = .ok (.aload_n 0, 1) := by decide +kernel
theorem dX9_say_40 : decode cX9_say 40 = .ok (.dup, 1) := by decide +kernel
theorem dX9_say_41 : decode cX9_say 41 = .ok (.getfield 118, 3) := by decide +kernel
theorem dX9_say_44 : decode cX9_say 44 = .ok (.iconst 1, 1) := by decide +kernel
theorem dX9_say_45 : decode cX9_say 45 = .ok (.iadd, 1) := by decide +kernel
theorem dX9_say_46 : decode cX9_say 46 = .ok (.putfield 118, 3) := by decide +kernel
theorem dX9_say_49 : decode cX9_say 49 = .ok (.aload_n 0, 1) := by decide +kernel
theorem dX9_say_50 : decode cX9_say 50 = .ok (.getfield 118, 3) := by decide +kernel
theorem dX9_say_53 : decode cX9_say 53 = .ok (.ireturn, 1) := by decide +kernel
theorem dX9_wipe_0 : decode cX9_wipe 0 = .ok (.aload_n 0, 1) := by decide +kernel
theorem dX9_wipe_1 : decode cX9_wipe 1 = .ok (.getfield 118, 3) := by decide +kernel
theorem dX9_wipe_4 : decode cX9_wipe 4 = .ok (.istore_n 1, 1) := by decide +kernel
theorem dX9_wipe_5 : decode cX9_wipe 5 = .ok (.aload_n 0, 1) := by decide +kernel
theorem dX9_wipe_6 : decode cX9_wipe 6 = .ok (.iconst 0, 1) := by decide +kernel
theorem dX9_wipe_7 : decode cX9_wipe 7 = .ok (.putfield 118, 3) := by decide +kernel
theorem dX9_wipe_10 : decode cX9_wipe 10 = .ok (.iload_n 1, 1) := by decide +kernel
theorem dX9_wipe_11 : decode cX9_wipe 11 = .ok (.ireturn, 1) := by decide +kernel
theorem dX9_close_0 : decode cX9_close 0 = .ok (.aload_n 0, 1) := by decide +kernel
theorem dX9_close_1 : decode cX9_close 1 = .ok (.getfield 34, 3) := by decide +kernel
theorem dX9_close_4 : decode cX9_close 4 = .ok (.aload_n 0, 1) := by decide +kernel
theorem dX9_close_5 : decode cX9_close 5 = .ok (.getfield 121, 3) := by decide +kernel
theorem dX9_close_8 : decode cX9_close 8 = .ok (.iload_n 1, 1) := by decide +kernel
theorem dX9_close_9 : decode cX9_close 9 = .ok (.iastore, 1) := by decide +kernel
theorem dX9_close_10 : decode cX9_close 10 = .ok (.aload_n 0, 1) := by decide +kernel
theorem dX9_close_11 : decode cX9_close 11 = .ok (.getfield 40, 3) := by decide +kernel
theorem dX9_close_14 : decode cX9_close 14 = .ok (.aload_n 0, 1) := by decide +kernel
theorem dX9_close_15 : decode cX9_close 15 = .ok (.getfield 121, 3) := by decide +kernel
theorem dX9_close_18 : decode cX9_close 18 = .ok (.iload_n 2, 1) := by decide +kernel
theorem dX9_close_19 : decode cX9_close 19 = .ok (.iastore, 1) := by decide +kernel
theorem dX9_close_20 : decode cX9_close 20 = .ok (.aload_n 0, 1) := by decide +kernel
theorem dX9_close_21 : decode cX9_close 21 = .ok (.dup, 1) := by decide +kernel
theorem dX9_close_22 : decode cX9_close 22 = .ok (.getfield 121, 3) := by decide +kernel
theorem dX9_close_25 : decode cX9_close 25 = .ok (.iconst 1, 1) := by decide +kernel
theorem dX9_close_26 : decode cX9_close 26 = .ok (.iadd, 1) := by decide +kernel
theorem dX9_close_27 : decode cX9_close 27 = .ok (.putfield 121, 3) := by decide +kernel
theorem dX9_close_30 : decode cX9_close 30 = .ok (.iconst 0, 1) := by decide +kernel
theorem dX9_close_31 : decode cX9_close 31 = .ok (.ireturn, 1) := by decide +kernel
theorem dX9_begin_0 : decode cX9_begin 0 = .ok (.iload_n 1, 1) := by decide +kernel
theorem dX9_begin_1 : decode cX9_begin 1 = .ok (.i2l, 1) := by decide +kernel
theorem dX9_begin_2 : decode cX9_begin 2 = .ok (.ldc2_w 124, 3) := by decide +kernel
theorem dX9_begin_5 : decode cX9_begin 5 = .ok (.ldc2_w 126, 3) := by decide +kernel
theorem dX9_begin_8 : decode cX9_begin 8 = .ok (.invokestatic 77, 3) := by decide +kernel
theorem dX9_begin_11 : decode cX9_begin 11 = .ok (.istore_n 2, 1) := by decide +kernel
theorem dX9_begin_12 : decode cX9_begin 12 = .ok (.iload_n 1, 1) := by decide +kernel
theorem dX9_begin_13 : decode cX9_begin 13 = .ok (.i2l, 1) := by decide +kernel
theorem dX9_begin_14 : decode cX9_begin 14 = .ok (.ldc2_w 128, 3) := by decide +kernel
theorem dX9_begin_17 : decode cX9_begin 17 = .ok (.ldc2_w 130, 3) := by decide +kernel
theorem dX9_begin_20 : decode cX9_begin 20 = .ok (.invokestatic 77, 3) := by decide +kernel
theorem dX9_begin_23 : decode cX9_begin 23 = .ok (.istore_n 3, 1) := by decide +kernel
theorem dX9_begin_24 : decode cX9_begin 24 = .ok (.aload_n 0, 1) := by decide +kernel
theorem dX9_begin_25 : decode cX9_begin 25 = .ok (.getfield 37, 3) := by decide +kernel
theorem dX9_begin_28 : decode cX9_begin 28 = .ok (.aload_n 0, 1) := by decide +kernel
theorem dX9_begin_29 : decode cX9_begin 29 = .ok (.getfield 121, 3) := by decide +kernel
theorem dX9_begin_32 : decode cX9_begin 32 = .ok (.iload_n 2, 1) := by decide +kernel
theorem dX9_begin_33 : decode cX9_begin 33 = .ok (.ifCond .eq 10, 3) := by decide +kernel
theorem dX9_begin_36 : decode cX9_begin 36 = .ok (.iload_n 1, 1) := by decide +kernel
theorem dX9_begin_37 : decode cX9_begin 37 = .ok (.bipush 48, 2) := by decide +kernel
theorem dX9_begin_39 : decode cX9_begin 39 = .ok (.isub, 1) := by decide +kernel
theorem dX9_begin_40 : decode cX9_begin 40 = .ok (.goto 15, 3) := by decide +kernel
theorem dX9_begin_43 : decode cX9_begin 43 = .ok (.iload_n 3, 1) := by decide +kernel
theorem dX9_begin_44 : decode cX9_begin 44 = .ok (.ifCond .eq 10, 3) := by decide +kernel
theorem dX9_begin_47 : decode cX9_begin 47 = .ok (.iload_n 1, 1) := by decide +kernel
theorem dX9_begin_48 : decode cX9_begin 48 = .ok (.bipush 65, 2) := by decide +kernel
theorem dX9_begin_50 : decode cX9_begin 50 = .ok (.isub, 1) := by decide +kernel
theorem dX9_begin_51 : decode cX9_begin 51 = .ok (.goto 4, 3) := by decide +kernel
theorem dX9_begin_54 : decode cX9_begin 54 = .ok (.iconst 0, 1) := by decide +kernel
theorem dX9_begin_55 : decode cX9_begin 55 = .ok (.iastore, 1) := by decide +kernel
theorem dX9_begin_56 : decode cX9_begin 56 = .ok (.iload_n 2, 1) := by decide +kernel
theorem dX9_begin_57 : decode cX9_begin 57 = .ok (.ifCond .eq 12, 3) := by decide +kernel
theorem dX9_begin_60 : decode cX9_begin 60 = .ok (.aload_n 0, 1) := by decide +kernel
theorem dX9_begin_61 : decode cX9_begin 61 = .ok (.iconst 0, 1) := by decide +kernel
theorem dX9_begin_62 : decode cX9_begin 62 = .ok (.iconst 0, 1) := by decide +kernel
theorem dX9_begin_63 : decode cX9_begin 63 = .ok (.invokevirtual 132, 3) := by decide +kernel
theorem dX9_begin_66 : decode cX9_begin 66 = .ok (.goto 28, 3) := by decide +kernel
theorem dX9_begin_69 : decode cX9_begin 69 = .ok (.iload_n 1, 1) := by decide +kernel
theorem dX9_begin_70 : decode cX9_begin 70 = .ok (.bipush 46, 2) := by decide +kernel
theorem dX9_begin_72 : decode cX9_begin 72 = .ok (.if_icmp .ne 12, 3) := by decide +kernel
theorem dX9_begin_75 : decode cX9_begin 75 = .ok (.aload_n 0, 1) := by decide +kernel
theorem dX9_begin_76 : decode cX9_begin 76 = .ok (.iconst 5, 1) := by decide +kernel
theorem dX9_begin_77 : decode cX9_begin 77 = .ok (.iconst 0, 1) := by decide +kernel
theorem dX9_begin_78 : decode cX9_begin 78 = .ok (.invokevirtual 132, 3) := by decide +kernel
theorem dX9_begin_81 : decode cX9_begin 81 = .ok (.goto 13, 3) := by decide +kernel
theorem dX9_begin_84 : decode cX9_begin 84 = .ok (.iload_n 3, 1) := by decide +kernel
theorem dX9_begin_85 : decode cX9_begin 85 = .ok (.ifCond .eq 7, 3) := by decide +kernel
theorem dX9_begin_88 : decode cX9_begin 88 = .ok (.iconst 1, 1) := by decide +kernel
theorem dX9_begin_89 : decode cX9_begin 89 = .ok (.goto 5, 3) := by decide +kernel
theorem dX9_begin_92 : decode cX9_begin 92 = .ok (.bipush (-6), 2) := by decide +kernel
theorem dX9_begin_94 : decode cX9_begin 94 = .ok (.ireturn, 1) := by decide +kernel
theorem dX9_readOn_0 : decode cX9_readOn 0 = .ok (.iload_n 1, 1) := by decide +kernel
theorem dX9_readOn_1 : decode cX9_readOn 1 = .ok (.ifCond .ne 9, 3) := by decide +kernel
theorem dX9_readOn_4 : decode cX9_readOn 4 = .ok (.aload_n 0, 1) := by decide +kernel
theorem dX9_readOn_5 : decode cX9_readOn 5 = .ok (.iload_n 2, 1) := by decide +kernel
theorem dX9_readOn_6 : decode cX9_readOn 6 = .ok (.invokevirtual 136, 3) := by decide +kernel
theorem dX9_readOn_9 : decode cX9_readOn 9 = .ok (.ireturn, 1) := by decide +kernel
theorem dX9_readOn_10 : decode cX9_readOn 10 = .ok (.iload_n 1, 1) := by decide +kernel
theorem dX9_readOn_11 : decode cX9_readOn 11 = .ok (.iconst 2, 1) := by decide +kernel
theorem dX9_readOn_12 : decode cX9_readOn 12 = .ok (.if_icmp .ne 35, 3) := by decide +kernel
theorem dX9_readOn_15 : decode cX9_readOn 15 = .ok (.iload_n 2, 1) := by decide +kernel
theorem dX9_readOn_16 : decode cX9_readOn 16 = .ok (.i2l, 1) := by decide +kernel
theorem dX9_readOn_17 : decode cX9_readOn 17 = .ok (.ldc2_w 139, 3) := by decide +kernel
theorem dX9_readOn_20 : decode cX9_readOn 20 = .ok (.ldc2_w 141, 3) := by decide +kernel
theorem dX9_readOn_23 : decode cX9_readOn 23 = .ok (.invokestatic 77, 3) := by decide +kernel
theorem dX9_readOn_26 : decode cX9_readOn 26 = .ok (.ifCond .eq 18, 3) := by decide +kernel
theorem dX9_readOn_29 : decode cX9_readOn 29 = .ok (.aload_n 0, 1) := by decide +kernel
theorem dX9_readOn_30 : decode cX9_readOn 30 = .ok (.iconst 1, 1) := by decide +kernel
theorem dX9_readOn_31 : decode cX9_readOn 31 = .ok (.bipush 10, 2) := by decide +kernel
theorem dX9_readOn_33 : decode cX9_readOn 33 = .ok (.iload_n 2, 1) := by decide +kernel
theorem dX9_readOn_34 : decode cX9_readOn 34 = .ok (.bipush 48, 2) := by decide +kernel
theorem dX9_readOn_36 : decode cX9_readOn 36 = .ok (.isub, 1) := by decide +kernel
theorem dX9_readOn_37 : decode cX9_readOn 37 = .ok (.imul, 1) := by decide +kernel
theorem dX9_readOn_38 : decode cX9_readOn 38 = .ok (.invokevirtual 132, 3) := by decide +kernel
theorem dX9_readOn_41 : decode cX9_readOn 41 = .ok (.goto 5, 3) := by decide +kernel
theorem dX9_readOn_44 : decode cX9_readOn 44 = .ok (.bipush (-6), 2) := by decide +kernel
theorem dX9_readOn_46 : decode cX9_readOn 46 = .ok (.ireturn, 1) := by decide +kernel
theorem dX9_readOn_47 : decode cX9_readOn 47 = .ok (.iload_n 1, 1) := by decide +kernel
theorem dX9_readOn_48 : decode cX9_readOn 48 = .ok (.iconst 3, 1) := by decide +kernel
theorem dX9_readOn_49 : decode cX9_readOn 49 = .ok (.if_icmp .ne 32, 3) := by decide +kernel
theorem dX9_readOn_52 : decode cX9_readOn 52 = .ok (.iload_n 2, 1) := by decide +kernel
theorem dX9_readOn_53 : decode cX9_readOn 53 = .ok (.i2l, 1) := by decide +kernel
theorem dX9_readOn_54 : decode cX9_readOn 54 = .ok (.ldc2_w 128, 3) := by decide +kernel
theorem dX9_readOn_57 : decode cX9_readOn 57 = .ok (.ldc2_w 130, 3) := by decide +kernel
theorem dX9_readOn_60 : decode cX9_readOn 60 = .ok (.invokestatic 77, 3) := by decide +kernel
theorem dX9_readOn_63 : decode cX9_readOn 63 = .ok (.ifCond .eq 15, 3) := by decide +kernel
theorem dX9_readOn_66 : decode cX9_readOn 66 = .ok (.aload_n 0, 1) := by decide +kernel
theorem dX9_readOn_67 : decode cX9_readOn 67 = .ok (.iconst 3, 1) := by decide +kernel
theorem dX9_readOn_68 : decode cX9_readOn 68 = .ok (.iload_n 2, 1) := by decide +kernel
theorem dX9_readOn_69 : decode cX9_readOn 69 = .ok (.bipush 65, 2) := by decide +kernel
theorem dX9_readOn_71 : decode cX9_readOn 71 = .ok (.isub, 1) := by decide +kernel
theorem dX9_readOn_72 : decode cX9_readOn 72 = .ok (.invokevirtual 132, 3) := by decide +kernel
theorem dX9_readOn_75 : decode cX9_readOn 75 = .ok (.goto 5, 3) := by decide +kernel
theorem dX9_readOn_78 : decode cX9_readOn 78 = .ok (.bipush (-6), 2) := by decide +kernel
theorem dX9_readOn_80 : decode cX9_readOn 80 = .ok (.ireturn, 1) := by decide +kernel
theorem dX9_readOn_81 : decode cX9_readOn 81 = .ok (.iload_n 2, 1) := by decide +kernel
theorem dX9_readOn_82 : decode cX9_readOn 82 = .ok (.bipush 43, 2) := by decide +kernel
theorem dX9_readOn_84 : decode cX9_readOn 84 = .ok (.if_icmp .ne 7, 3) := by decide +kernel
theorem dX9_readOn_87 : decode cX9_readOn 87 = .ok (.iconst 2, 1) := by decide +kernel
theorem dX9_readOn_88 : decode cX9_readOn 88 = .ok (.goto 45, 3) := by decide +kernel
theorem dX9_readOn_91 : decode cX9_readOn 91 = .ok (.iload_n 2, 1) := by decide +kernel
theorem dX9_readOn_92 : decode cX9_readOn 92 = .ok (.bipush 61, 2) := by decide +kernel
theorem dX9_readOn_94 : decode cX9_readOn 94 = .ok (.if_icmp .ne 7, 3) := by decide +kernel
theorem dX9_readOn_97 : decode cX9_readOn 97 = .ok (.iconst 3, 1) := by decide +kernel
theorem dX9_readOn_98 : decode cX9_readOn 98 = .ok (.goto 35, 3) := by decide +kernel
theorem dX9_readOn_101 : decode cX9_readOn 101 = .ok (.iload_n 2, 1) := by decide +kernel
theorem dX9_readOn_102 : decode cX9_readOn 102 = .ok (.bipush 42, 2) := by decide +kernel
theorem dX9_readOn_104 : decode cX9_readOn 104 = .ok (.if_icmp .ne 12, 3) := by decide +kernel
theorem dX9_readOn_107 : decode cX9_readOn 107 = .ok (.aload_n 0, 1) := by decide +kernel
theorem dX9_readOn_108 : decode cX9_readOn 108 = .ok (.iconst 2, 1) := by decide +kernel
theorem dX9_readOn_109 : decode cX9_readOn 109 = .ok (.iconst 0, 1) := by decide +kernel
theorem dX9_readOn_110 : decode cX9_readOn 110 = .ok (.invokevirtual 132, 3) := by decide +kernel
theorem dX9_readOn_113 : decode cX9_readOn 113 = .ok (.goto 20, 3) := by decide +kernel
theorem dX9_readOn_116 : decode cX9_readOn 116 = .ok (.iload_n 2, 1) := by decide +kernel
theorem dX9_readOn_117 : decode cX9_readOn 117 = .ok (.bipush 120, 2) := by decide +kernel
theorem dX9_readOn_119 : decode cX9_readOn 119 = .ok (.if_icmp .ne 12, 3) := by decide +kernel
theorem dX9_readOn_122 : decode cX9_readOn 122 = .ok (.aload_n 0, 1) := by decide +kernel
theorem dX9_readOn_123 : decode cX9_readOn 123 = .ok (.iconst 4, 1) := by decide +kernel
theorem dX9_readOn_124 : decode cX9_readOn 124 = .ok (.iconst 0, 1) := by decide +kernel
theorem dX9_readOn_125 : decode cX9_readOn 125 = .ok (.invokevirtual 132, 3) := by decide +kernel
theorem dX9_readOn_128 : decode cX9_readOn 128 = .ok (.goto 5, 3) := by decide +kernel
theorem dX9_readOn_131 : decode cX9_readOn 131 = .ok (.bipush (-6), 2) := by decide +kernel
theorem dX9_readOn_133 : decode cX9_readOn 133 = .ok (.ireturn, 1) := by decide +kernel
theorem dX9_fault_0 : decode cX9_fault 0 = .ok (.aload_n 0, 1) := by decide +kernel
theorem dX9_fault_1 : decode cX9_fault 1 = .ok (.iconst 0, 1) := by decide +kernel
theorem dX9_fault_2 : decode cX9_fault 2 = .ok (.putfield 121, 3) := by decide +kernel
theorem dX9_fault_5 : decode cX9_fault 5 = .ok (.iconst 0, 1) := by decide +kernel
theorem dX9_fault_6 : decode cX9_fault 6 = .ok (.istore_n 1, 1) := by decide +kernel
theorem dX9_fault_7 : decode cX9_fault 7 = .ok (.iconst 0, 1) := by decide +kernel
theorem dX9_fault_8 : decode cX9_fault 8 = .ok (.istore_n 2, 1) := by decide +kernel
theorem dX9_fault_9 : decode cX9_fault 9 = .ok (.iload_n 2, 1) := by decide +kernel
theorem dX9_fault_10 : decode cX9_fault 10 = .ok (.aload_n 0, 1) := by decide +kernel
theorem dX9_fault_11 : decode cX9_fault 11 = .ok (.getfield 118, 3) := by decide +kernel
theorem dX9_fault_14 : decode cX9_fault 14 = .ok (.if_icmp .ge 27, 3) := by decide +kernel
theorem dX9_fault_17 : decode cX9_fault 17 = .ok (.aload_n 0, 1) := by decide +kernel
theorem dX9_fault_18 : decode cX9_fault 18 = .ok (.iload_n 1, 1) := by decide +kernel
theorem dX9_fault_19 : decode cX9_fault 19 = .ok (.aload_n 0, 1) := by decide +kernel
theorem dX9_fault_20 : decode cX9_fault 20 = .ok (.getfield 31, 3) := by decide +kernel
theorem dX9_fault_23 : decode cX9_fault 23 = .ok (.iload_n 2, 1) := by decide +kernel
theorem dX9_fault_24 : decode cX9_fault 24 = .ok (.iaload, 1) := by decide +kernel
theorem dX9_fault_25 : decode cX9_fault 25 = .ok (.invokevirtual 143, 3) := by decide +kernel
theorem dX9_fault_28 : decode cX9_fault 28 = .ok (.istore_n 1, 1) := by decide +kernel
theorem dX9_fault_29 : decode cX9_fault 29 = .ok (.iload_n 1, 1) := by decide +kernel
theorem dX9_fault_30 : decode cX9_fault 30 = .ok (.ifCond .ge 5, 3) := by decide +kernel
theorem dX9_fault_33 : decode cX9_fault 33 = .ok (.iload_n 2, 1) := by decide +kernel
theorem dX9_fault_34 : decode cX9_fault 34 = .ok (.ireturn, 1) := by decide +kernel
theorem dX9_fault_35 : decode cX9_fault 35 = .ok (.iinc 2 1, 3) := by decide +kernel
theorem dX9_fault_38 : decode cX9_fault 38 = .ok (.goto (-29), 3) := by decide +kernel
theorem dX9_fault_41 : decode cX9_fault 41 = .ok (.iload_n 1, 1) := by decide +kernel
theorem dX9_fault_42 : decode cX9_fault 42 = .ok (.ifCond .ne 8, 3) := by decide +kernel
theorem dX9_fault_45 : decode cX9_fault 45 = .ok (.bipush (-6), 2) := by decide +kernel
theorem dX9_fault_47 : decode cX9_fault 47 = .ok (.goto 7, 3) := by decide +kernel
theorem dX9_fault_50 : decode cX9_fault 50 = .ok (.aload_n 0, 1) := by decide +kernel
theorem dX9_fault_51 : decode cX9_fault 51 = .ok (.getfield 118, 3) := by decide +kernel
theorem dX9_fault_54 : decode cX9_fault 54 = .ok (.ireturn, 1) := by decide +kernel
theorem dX9_mayHere_0 : decode cX9_mayHere 0 = .ok (.aload_n 0, 1) := by decide +kernel
theorem dX9_mayHere_1 : decode cX9_mayHere 1 = .ok (.iload_n 1, 1) := by decide +kernel
theorem dX9_mayHere_2 : decode cX9_mayHere 2 = .ok (.invokevirtual 99, 3) := by decide +kernel
theorem dX9_mayHere_5 : decode cX9_mayHere 5 = .ok (.ifCond .eq 39, 3) := by decide +kernel
theorem dX9_mayHere_8 : decode cX9_mayHere 8 = .ok (.aload_n 0, 1) := by decide +kernel
theorem dX9_mayHere_9 : decode cX9_mayHere 9 = .ok (.getfield 7, 3) := by decide +kernel
theorem dX9_mayHere_12 : decode cX9_mayHere 12 = .ok (.iload_n 1, 1) := by decide +kernel
theorem dX9_mayHere_13 : decode cX9_mayHere 13 = .ok (.iaload, 1) := by decide +kernel
theorem dX9_mayHere_14 : decode cX9_mayHere 14 = .ok (.iload_n 2, 1) := by decide +kernel
theorem dX9_mayHere_15 : decode cX9_mayHere 15 = .ok (.if_icmp .ne 29, 3) := by decide +kernel
theorem dX9_mayHere_18 : decode cX9_mayHere 18 = .ok (.aload_n 0, 1) := by decide +kernel
theorem dX9_mayHere_19 : decode cX9_mayHere 19 = .ok (.getfield 89, 3) := by decide +kernel
theorem dX9_mayHere_22 : decode cX9_mayHere 22 = .ok (.iload_n 1, 1) := by decide +kernel
theorem dX9_mayHere_23 : decode cX9_mayHere 23 = .ok (.ishr, 1) := by decide +kernel
theorem dX9_mayHere_24 : decode cX9_mayHere 24 = .ok (.iconst 1, 1) := by decide +kernel
theorem dX9_mayHere_25 : decode cX9_mayHere 25 = .ok (.iand, 1) := by decide +kernel
theorem dX9_mayHere_26 : decode cX9_mayHere 26 = .ok (.ifCond .ne 18, 3) := by decide +kernel
theorem dX9_mayHere_29 : decode cX9_mayHere 29 = .ok (.aload_n 0, 1) := by decide +kernel
theorem dX9_mayHere_30 : decode cX9_mayHere 30 = .ok (.getfield 92, 3) := by decide +kernel
theorem dX9_mayHere_33 : decode cX9_mayHere 33 = .ok (.iload_n 1, 1) := by decide +kernel
theorem dX9_mayHere_34 : decode cX9_mayHere 34 = .ok (.ishr, 1) := by decide +kernel
theorem dX9_mayHere_35 : decode cX9_mayHere 35 = .ok (.iconst 1, 1) := by decide +kernel
theorem dX9_mayHere_36 : decode cX9_mayHere 36 = .ok (.iand, 1) := by decide +kernel
theorem dX9_mayHere_37 : decode cX9_mayHere 37 = .ok (.ifCond .ne 7, 3) := by decide +kernel
theorem dX9_mayHere_40 : decode cX9_mayHere 40 = .ok (.iconst 1, 1) := by decide +kernel
theorem dX9_mayHere_41 : decode cX9_mayHere 41 = .ok (.goto 4, 3) := by decide +kernel
theorem dX9_mayHere_44 : decode cX9_mayHere 44 = .ok (.iconst 0, 1) := by decide +kernel
theorem dX9_mayHere_45 : decode cX9_mayHere 45 = .ok (.ireturn, 1) := by decide +kernel
theorem dX9_ready_0 : decode cX9_ready 0 = .ok (.iconst 0, 1) := by decide +kernel
theorem dX9_ready_1 : decode cX9_ready 1 = .ok (.istore_n 3, 1) := by decide +kernel
theorem dX9_ready_2 : decode cX9_ready 2 = .ok (.iconst 0, 1) := by decide +kernel
theorem dX9_ready_3 : decode cX9_ready 3 = .ok (.istore 4, 2) := by decide +kernel
theorem dX9_ready_5 : decode cX9_ready 5 = .ok (.iload 4, 2) := by decide +kernel
theorem dX9_ready_7 : decode cX9_ready 7 = .ok (.bipush 8, 2) := by decide +kernel
theorem dX9_ready_9 : decode cX9_ready 9 = .ok (.if_icmp .ge 46, 3) := by decide +kernel
theorem dX9_ready_12 : decode cX9_ready 12 = .ok (.iload_n 3, 1) := by decide +kernel
theorem dX9_ready_13 : decode cX9_ready 13 = .ok (.aload_n 0, 1) := by decide +kernel
theorem dX9_ready_14 : decode cX9_ready 14 = .ok (.iload 4, 2) := by decide +kernel
theorem dX9_ready_16 : decode cX9_ready 16 = .ok (.iload_n 1, 1) := by decide +kernel
theorem dX9_ready_17 : decode cX9_ready 17 = .ok (.invokevirtual 146, 3) := by decide +kernel
theorem dX9_ready_20 : decode cX9_ready 20 = .ok (.ifCond .eq 26, 3) := by decide +kernel
theorem dX9_ready_23 : decode cX9_ready 23 = .ok (.aload_n 0, 1) := by decide +kernel
theorem dX9_ready_24 : decode cX9_ready 24 = .ok (.getfield 13, 3) := by decide +kernel
theorem dX9_ready_27 : decode cX9_ready 27 = .ok (.iload 4, 2) := by decide +kernel
theorem dX9_ready_29 : decode cX9_ready 29 = .ok (.iaload, 1) := by decide +kernel
theorem dX9_ready_30 : decode cX9_ready 30 = .ok (.ifCond .le 7, 3) := by decide +kernel
theorem dX9_ready_33 : decode cX9_ready 33 = .ok (.iconst 1, 1) := by decide +kernel
theorem dX9_ready_34 : decode cX9_ready 34 = .ok (.goto 4, 3) := by decide +kernel
theorem dX9_ready_37 : decode cX9_ready 37 = .ok (.iconst 0, 1) := by decide +kernel
theorem dX9_ready_38 : decode cX9_ready 38 = .ok (.iload_n 2, 1) := by decide +kernel
theorem dX9_ready_39 : decode cX9_ready 39 = .ok (.if_icmp .ne 7, 3) := by decide +kernel
theorem dX9_ready_42 : decode cX9_ready 42 = .ok (.iconst 1, 1) := by decide +kernel
theorem dX9_ready_43 : decode cX9_ready 43 = .ok (.goto 4, 3) := by decide +kernel
theorem dX9_ready_46 : decode cX9_ready 46 = .ok (.iconst 0, 1) := by decide +kernel
theorem dX9_ready_47 : decode cX9_ready 47 = .ok (.iadd, 1) := by decide +kernel
theorem dX9_ready_48 : decode cX9_ready 48 = .ok (.istore_n 3, 1) := by decide +kernel
theorem dX9_ready_49 : decode cX9_ready 49 = .ok (.iinc 4 1, 3) := by decide +kernel
theorem dX9_ready_52 : decode cX9_ready 52 = .ok (.goto (-47), 3) := by decide +kernel
theorem dX9_ready_55 : decode cX9_ready 55 = .ok (.iload_n 3, 1) := by decide +kernel
theorem dX9_ready_56 : decode cX9_ready 56 = .ok (.ireturn, 1) := by decide +kernel
theorem dX9_canBeSung_0 : decode cX9_canBeSung 0 = .ok (.iconst 1, 1) := by decide +kernel
theorem dX9_canBeSung_1 : decode cX9_canBeSung 1 = .ok (.istore_n 2, 1) := by decide +kernel
theorem dX9_canBeSung_2 : decode cX9_canBeSung 2 = .ok (.iconst 0, 1) := by decide +kernel
theorem dX9_canBeSung_3 : decode cX9_canBeSung 3 = .ok (.istore_n 3, 1) := by decide +kernel
theorem dX9_canBeSung_4 : decode cX9_canBeSung 4 = .ok (.iload_n 3, 1) := by decide +kernel
theorem dX9_canBeSung_5 : decode cX9_canBeSung 5 = .ok (.iconst 4, 1) := by decide +kernel
theorem dX9_canBeSung_6 : decode cX9_canBeSung 6 = .ok (.if_icmp .ge 38, 3) := by decide +kernel
theorem dX9_canBeSung_9 : decode cX9_canBeSung 9 = .ok (.iload_n 2, 1) := by decide +kernel
theorem dX9_canBeSung_10 : decode cX9_canBeSung 10 = .ok (.ifCond .eq 26, 3) := by decide +kernel
theorem dX9_canBeSung_13 : decode cX9_canBeSung 13 = .ok (.aload_n 0, 1) := by decide +kernel
theorem dX9_canBeSung_14 : decode cX9_canBeSung 14 = .ok (.iload_n 3, 1) := by decide +kernel
theorem dX9_canBeSung_15 : decode cX9_canBeSung 15 = .ok (.iconst 1, 1) := by decide +kernel
theorem dX9_canBeSung_16 : decode cX9_canBeSung 16 = .ok (.invokevirtual 150, 3) := by decide +kernel
theorem dX9_canBeSung_19 : decode cX9_canBeSung 19 = .ok (.aload_n 0, 1) := by decide +kernel
theorem dX9_canBeSung_20 : decode cX9_canBeSung 20 = .ok (.getfield 16, 3) := by decide +kernel
theorem dX9_canBeSung_23 : decode cX9_canBeSung 23 = .ok (.iconst 4, 1) := by decide +kernel
theorem dX9_canBeSung_24 : decode cX9_canBeSung 24 = .ok (.iload_n 1, 1) := by decide +kernel
theorem dX9_canBeSung_25 : decode cX9_canBeSung 25 = .ok (.imul, 1) := by decide +kernel
theorem dX9_canBeSung_26 : decode cX9_canBeSung 26 = .ok (.iload_n 3, 1) := by decide +kernel
theorem dX9_canBeSung_27 : decode cX9_canBeSung 27 = .ok (.iadd, 1) := by decide +kernel
theorem dX9_canBeSung_28 : decode cX9_canBeSung 28 = .ok (.iaload, 1) := by decide +kernel
theorem dX9_canBeSung_29 : decode cX9_canBeSung 29 = .ok (.if_icmp .lt 7, 3) := by decide +kernel
theorem dX9_canBeSung_32 : decode cX9_canBeSung 32 = .ok (.iconst 1, 1) := by decide +kernel
theorem dX9_canBeSung_33 : decode cX9_canBeSung 33 = .ok (.goto 4, 3) := by decide +kernel
theorem dX9_canBeSung_36 : decode cX9_canBeSung 36 = .ok (.iconst 0, 1) := by decide +kernel
theorem dX9_canBeSung_37 : decode cX9_canBeSung 37 = .ok (.istore_n 2, 1) := by decide +kernel
theorem dX9_canBeSung_38 : decode cX9_canBeSung 38 = .ok (.iinc 3 1, 3) := by decide +kernel
theorem dX9_canBeSung_41 : decode cX9_canBeSung 41 = .ok (.goto (-37), 3) := by decide +kernel
theorem dX9_canBeSung_44 : decode cX9_canBeSung 44 = .ok (.iload_n 2, 1) := by decide +kernel
theorem dX9_canBeSung_45 : decode cX9_canBeSung 45 = .ok (.ireturn, 1) := by decide +kernel
theorem dX9_whyNotTake_0 : decode cX9_whyNotTake 0 = .ok (.aload_n 0, 1) := by decide +kernel
theorem dX9_whyNotTake_1 : decode cX9_whyNotTake 1 = .ok (.iload_n 2, 1) := by decide +kernel
theorem dX9_whyNotTake_2 : decode cX9_whyNotTake 2 = .ok (.invokevirtual 99, 3) := by decide +kernel
theorem dX9_whyNotTake_5 : decode cX9_whyNotTake 5 = .ok (.ifCond .ne 5, 3) := by decide +kernel
theorem dX9_whyNotTake_8 : decode cX9_whyNotTake 8 = .ok (.iconst 1, 1) := by decide +kernel
theorem dX9_whyNotTake_9 : decode cX9_whyNotTake 9 = .ok (.ireturn, 1) := by decide +kernel
theorem dX9_whyNotTake_10 : decode cX9_whyNotTake 10 = .ok (.iload_n 1, 1) := by decide +kernel
theorem dX9_whyNotTake_11 : decode cX9_whyNotTake 11 = .ok (.iload_n 2, 1) := by decide +kernel
theorem dX9_whyNotTake_12 : decode cX9_whyNotTake 12 = .ok (.if_icmp .eq 12, 3) := by decide +kernel
theorem dX9_whyNotTake_15 : decode cX9_whyNotTake 15 = .ok (.aload_n 0, 1) := by decide +kernel
theorem dX9_whyNotTake_16 : decode cX9_whyNotTake 16 = .ok (.getfield 13, 3) := by decide +kernel
theorem dX9_whyNotTake_19 : decode cX9_whyNotTake 19 = .ok (.iload_n 1, 1) := by decide +kernel
theorem dX9_whyNotTake_20 : decode cX9_whyNotTake 20 = .ok (.iaload, 1) := by decide +kernel
theorem dX9_whyNotTake_21 : decode cX9_whyNotTake 21 = .ok (.ifCond .ne 5, 3) := by decide +kernel
theorem dX9_whyNotTake_24 : decode cX9_whyNotTake 24 = .ok (.iconst 2, 1) := by decide +kernel
theorem dX9_whyNotTake_25 : decode cX9_whyNotTake 25 = .ok (.ireturn, 1) := by decide +kernel
theorem dX9_whyNotTake_26 : decode cX9_whyNotTake 26 = .ok (.aload_n 0, 1) := by decide +kernel
theorem dX9_whyNotTake_27 : decode cX9_whyNotTake 27 = .ok (.getfield 13, 3) := by decide +kernel
theorem dX9_whyNotTake_30 : decode cX9_whyNotTake 30 = .ok (.iload_n 1, 1) := by decide +kernel
theorem dX9_whyNotTake_31 : decode cX9_whyNotTake 31 = .ok (.iaload, 1) := by decide +kernel
theorem dX9_whyNotTake_32 : decode cX9_whyNotTake 32 = .ok (.aload_n 0, 1) := by decide +kernel
theorem dX9_whyNotTake_33 : decode cX9_whyNotTake 33 = .ok (.getfield 13, 3) := by decide +kernel
theorem dX9_whyNotTake_36 : decode cX9_whyNotTake 36 = .ok (.iload_n 2, 1) := by decide +kernel
theorem dX9_whyNotTake_37 : decode cX9_whyNotTake 37 = .ok (.iaload, 1) := by decide +kernel
theorem dX9_whyNotTake_38 : decode cX9_whyNotTake 38 = .ok (.iadd, 1) := by decide +kernel
theorem dX9_whyNotTake_39 : decode cX9_whyNotTake 39 = .ok (.sipush 999, 3) := by decide +kernel
theorem dX9_whyNotTake_42 : decode cX9_whyNotTake 42 = .ok (.if_icmp .le 7, 3) := by decide +kernel
theorem dX9_whyNotTake_45 : decode cX9_whyNotTake 45 = .ok (.iconst 3, 1) := by decide +kernel
theorem dX9_whyNotTake_46 : decode cX9_whyNotTake 46 = .ok (.goto 4, 3) := by decide +kernel
theorem dX9_whyNotTake_49 : decode cX9_whyNotTake 49 = .ok (.iconst 0, 1) := by decide +kernel
theorem dX9_whyNotTake_50 : decode cX9_whyNotTake 50 = .ok (.ireturn, 1) := by decide +kernel
theorem dX9_whyNot_0 : decode cX9_whyNot 0 = .ok (.iload_n 1, 1) := by decide +kernel
theorem dX9_whyNot_1 : decode cX9_whyNot 1 = .ok (.iconst 5, 1) := by decide +kernel
theorem dX9_whyNot_2 : decode cX9_whyNot 2 = .ok (.if_icmp .ne 18, 3) := by decide +kernel
theorem dX9_whyNot_5 : decode cX9_whyNot 5 = .ok (.aload_n 0, 1) := by decide +kernel
theorem dX9_whyNot_6 : decode cX9_whyNot 6 = .ok (.getfield 154, 3) := by decide +kernel
theorem dX9_whyNot_9 : decode cX9_whyNot 9 = .ok (.bipush 99, 2) := by decide +kernel
theorem dX9_whyNot_11 : decode cX9_whyNot 11 = .ok (.if_icmp .ne 7, 3) := by decide +kernel
theorem dX9_whyNot_14 : decode cX9_whyNot 14 = .ok (.iconst 5, 1) := by decide +kernel
theorem dX9_whyNot_15 : decode cX9_whyNot 15 = .ok (.goto 4, 3) := by decide +kernel
theorem dX9_whyNot_18 : decode cX9_whyNot 18 = .ok (.iconst 0, 1) := by decide +kernel
theorem dX9_whyNot_19 : decode cX9_whyNot 19 = .ok (.ireturn, 1) := by decide +kernel
theorem dX9_whyNot_20 : decode cX9_whyNot 20 = .ok (.iload_n 1, 1) := by decide +kernel
theorem dX9_whyNot_21 : decode cX9_whyNot 21 = .ok (.ifCond .ne 17, 3) := by decide +kernel
theorem dX9_whyNot_24 : decode cX9_whyNot 24 = .ok (.aload_n 0, 1) := by decide +kernel
theorem dX9_whyNot_25 : decode cX9_whyNot 25 = .ok (.iload_n 2, 1) := by decide +kernel
theorem dX9_whyNot_26 : decode cX9_whyNot 26 = .ok (.invokevirtual 157, 3) := by decide +kernel
theorem dX9_whyNot_29 : decode cX9_whyNot 29 = .ok (.ifCond .eq 7, 3) := by decide +kernel
theorem dX9_whyNot_32 : decode cX9_whyNot 32 = .ok (.iconst 0, 1) := by decide +kernel
theorem dX9_whyNot_33 : decode cX9_whyNot 33 = .ok (.goto 4, 3) := by decide +kernel
theorem dX9_whyNot_36 : decode cX9_whyNot 36 = .ok (.iconst 4, 1) := by decide +kernel
theorem dX9_whyNot_37 : decode cX9_whyNot 37 = .ok (.ireturn, 1) := by decide +kernel
theorem dX9_whyNot_38 : decode cX9_whyNot 38 = .ok (.aload_n 0, 1) := by decide +kernel
theorem dX9_whyNot_39 : decode cX9_whyNot 39 = .ok (.iload_n 2, 1) := by decide +kernel
theorem dX9_whyNot_40 : decode cX9_whyNot 40 = .ok (.invokevirtual 99, 3) := by decide +kernel
theorem dX9_whyNot_43 : decode cX9_whyNot 43 = .ok (.ifCond .ne 5, 3) := by decide +kernel
theorem dX9_whyNot_46 : decode cX9_whyNot 46 = .ok (.iconst 1, 1) := by decide +kernel
theorem dX9_whyNot_47 : decode cX9_whyNot 47 = .ok (.ireturn, 1) := by decide +kernel
theorem dX9_whyNot_48 : decode cX9_whyNot 48 = .ok (.iload_n 1, 1) := by decide +kernel
theorem dX9_whyNot_49 : decode cX9_whyNot 49 = .ok (.tableswitch 73 1 4 #[31, 73, 51, 58], 31) := by decide +kernel
theorem dX9_whyNot_80 : decode cX9_whyNot 80 = .ok (.aload_n 0, 1) := by decide +kernel
theorem dX9_whyNot_81 : decode cX9_whyNot 81 = .ok (.getfield 13, 3) := by decide +kernel
theorem dX9_whyNot_84 : decode cX9_whyNot 84 = .ok (.iload_n 2, 1) := by decide +kernel
theorem dX9_whyNot_85 : decode cX9_whyNot 85 = .ok (.iaload, 1) := by decide +kernel
theorem dX9_whyNot_86 : decode cX9_whyNot 86 = .ok (.iload_n 3, 1) := by decide +kernel
theorem dX9_whyNot_87 : decode cX9_whyNot 87 = .ok (.iadd, 1) := by decide +kernel
theorem dX9_whyNot_88 : decode cX9_whyNot 88 = .ok (.sipush 999, 3) := by decide +kernel
theorem dX9_whyNot_91 : decode cX9_whyNot 91 = .ok (.if_icmp .le 7, 3) := by decide +kernel
theorem dX9_whyNot_94 : decode cX9_whyNot 94 = .ok (.iconst 3, 1) := by decide +kernel
theorem dX9_whyNot_95 : decode cX9_whyNot 95 = .ok (.goto 4, 3) := by decide +kernel
theorem dX9_whyNot_98 : decode cX9_whyNot 98 = .ok (.iconst 0, 1) := by decide +kernel
theorem dX9_whyNot_99 : decode cX9_whyNot 99 = .ok (.ireturn, 1) := by decide +kernel
theorem dX9_whyNot_100 : decode cX9_whyNot 100 = .ok (.aload_n 0, 1) := by decide +kernel
theorem dX9_whyNot_101 : decode cX9_whyNot 101 = .ok (.iload_n 2, 1) := by decide +kernel
theorem dX9_whyNot_102 : decode cX9_whyNot 102 = .ok (.iload_n 3, 1) := by decide +kernel
theorem dX9_whyNot_103 : decode cX9_whyNot 103 = .ok (.invokevirtual 160, 3) := by decide +kernel
theorem dX9_whyNot_106 : decode cX9_whyNot 106 = .ok (.ireturn, 1) := by decide +kernel
theorem dX9_whyNot_107 : decode cX9_whyNot 107 = .ok (.aload_n 0, 1) := by decide +kernel
theorem dX9_whyNot_108 : decode cX9_whyNot 108 = .ok (.getfield 13, 3) := by decide +kernel
theorem dX9_whyNot_111 : decode cX9_whyNot 111 = .ok (.iload_n 2, 1) := by decide +kernel
theorem dX9_whyNot_112 : decode cX9_whyNot 112 = .ok (.iaload, 1) := by decide +kernel
theorem dX9_whyNot_113 : decode cX9_whyNot 113 = .ok (.ifCond .ne 7, 3) := by decide +kernel
theorem dX9_whyNot_116 : decode cX9_whyNot 116 = .ok (.iconst 2, 1) := by decide +kernel
theorem dX9_whyNot_117 : decode cX9_whyNot 117 = .ok (.goto 4, 3) := by decide +kernel
theorem dX9_whyNot_120 : decode cX9_whyNot 120 = .ok (.iconst 0, 1) := by decide +kernel
theorem dX9_whyNot_121 : decode cX9_whyNot 121 = .ok (.ireturn, 1) := by decide +kernel
theorem dX9_whyNot_122 : decode cX9_whyNot 122 = .ok (.iconst 0, 1) := by decide +kernel
theorem dX9_whyNot_123 : decode cX9_whyNot 123 = .ok (.ireturn, 1) := by decide +kernel
theorem dX9_singOne_0 : decode cX9_singOne 0 = .ok (.bipush (-6), 2) := by decide +kernel
theorem dX9_singOne_2 : decode cX9_singOne 2 = .ok (.istore_n 3, 1) := by decide +kernel
theorem dX9_singOne_3 : decode cX9_singOne 3 = .ok (.iconst 0, 1) := by decide +kernel
theorem dX9_singOne_4 : decode cX9_singOne 4 = .ok (.istore 4, 2) := by decide +kernel
theorem dX9_singOne_6 : decode cX9_singOne 6 = .ok (.iload 4, 2) := by decide +kernel
theorem dX9_singOne_8 : decode cX9_singOne 8 = .ok (.bipush 8, 2) := by decide +kernel
theorem dX9_singOne_10 : decode cX9_singOne 10 = .ok (.if_icmp .ge 68, 3) := by decide +kernel
theorem dX9_singOne_13 : decode cX9_singOne 13 = .ok (.aload_n 0, 1) := by decide +kernel
theorem dX9_singOne_14 : decode cX9_singOne 14 = .ok (.iload 4, 2) := by decide +kernel
theorem dX9_singOne_16 : decode cX9_singOne 16 = .ok (.iload_n 1, 1) := by decide +kernel
theorem dX9_singOne_17 : decode cX9_singOne 17 = .ok (.invokevirtual 146, 3) := by decide +kernel
theorem dX9_singOne_20 : decode cX9_singOne 20 = .ok (.ifCond .eq 17, 3) := by decide +kernel
theorem dX9_singOne_23 : decode cX9_singOne 23 = .ok (.aload_n 0, 1) := by decide +kernel
theorem dX9_singOne_24 : decode cX9_singOne 24 = .ok (.getfield 13, 3) := by decide +kernel
theorem dX9_singOne_27 : decode cX9_singOne 27 = .ok (.iload 4, 2) := by decide +kernel
theorem dX9_singOne_29 : decode cX9_singOne 29 = .ok (.iaload, 1) := by decide +kernel
theorem dX9_singOne_30 : decode cX9_singOne 30 = .ok (.ifCond .le 7, 3) := by decide +kernel
theorem dX9_singOne_33 : decode cX9_singOne 33 = .ok (.iconst 1, 1) := by decide +kernel
theorem dX9_singOne_34 : decode cX9_singOne 34 = .ok (.goto 4, 3) := by decide +kernel
theorem dX9_singOne_37 : decode cX9_singOne 37 = .ok (.iconst 0, 1) := by decide +kernel
theorem dX9_singOne_38 : decode cX9_singOne 38 = .ok (.istore 5, 2) := by decide +kernel
theorem dX9_singOne_40 : decode cX9_singOne 40 = .ok (.iload 5, 2) := by decide +kernel
theorem dX9_singOne_42 : decode cX9_singOne 42 = .ok (.ifCond .eq 28, 3) := by decide +kernel
theorem dX9_singOne_45 : decode cX9_singOne 45 = .ok (.iload_n 3, 1) := by decide +kernel
theorem dX9_singOne_46 : decode cX9_singOne 46 = .ok (.ifCond .lt 19, 3) := by decide +kernel
theorem dX9_singOne_49 : decode cX9_singOne 49 = .ok (.aload_n 0, 1) := by decide +kernel
theorem dX9_singOne_50 : decode cX9_singOne 50 = .ok (.getfield 13, 3) := by decide +kernel
theorem dX9_singOne_53 : decode cX9_singOne 53 = .ok (.iload 4, 2) := by decide +kernel
theorem dX9_singOne_55 : decode cX9_singOne 55 = .ok (.iaload, 1) := by decide +kernel
theorem dX9_singOne_56 : decode cX9_singOne 56 = .ok (.aload_n 0, 1) := by decide +kernel
theorem dX9_singOne_57 : decode cX9_singOne 57 = .ok (.getfield 13, 3) := by decide +kernel
theorem dX9_singOne_60 : decode cX9_singOne 60 = .ok (.iload_n 3, 1) := by decide +kernel
theorem dX9_singOne_61 : decode cX9_singOne 61 = .ok (.iaload, 1) := by decide +kernel
theorem dX9_singOne_62 : decode cX9_singOne 62 = .ok (.if_icmp .le 8, 3) := by decide +kernel
theorem dX9_singOne_65 : decode cX9_singOne 65 = .ok (.iload 4, 2) := by decide +kernel
theorem dX9_singOne_67 : decode cX9_singOne 67 = .ok (.goto 4, 3) := by decide +kernel
theorem dX9_singOne_70 : decode cX9_singOne 70 = .ok (.iload_n 3, 1) := by decide +kernel
theorem dX9_singOne_71 : decode cX9_singOne 71 = .ok (.istore_n 3, 1) := by decide +kernel
theorem dX9_singOne_72 : decode cX9_singOne 72 = .ok (.iinc 4 1, 3) := by decide +kernel
theorem dX9_singOne_75 : decode cX9_singOne 75 = .ok (.goto (-69), 3) := by decide +kernel
theorem dX9_singOne_78 : decode cX9_singOne 78 = .ok (.aload_n 0, 1) := by decide +kernel
theorem dX9_singOne_79 : decode cX9_singOne 79 = .ok (.getfield 13, 3) := by decide +kernel
theorem dX9_singOne_82 : decode cX9_singOne 82 = .ok (.iload_n 3, 1) := by decide +kernel
theorem dX9_singOne_83 : decode cX9_singOne 83 = .ok (.iaload, 1) := by decide +kernel
theorem dX9_singOne_84 : decode cX9_singOne 84 = .ok (.iload_n 2, 1) := by decide +kernel
theorem dX9_singOne_85 : decode cX9_singOne 85 = .ok (.if_icmp .ge 12, 3) := by decide +kernel
theorem dX9_singOne_88 : decode cX9_singOne 88 = .ok (.aload_n 0, 1) := by decide +kernel
theorem dX9_singOne_89 : decode cX9_singOne 89 = .ok (.getfield 13, 3) := by decide +kernel
theorem dX9_singOne_92 : decode cX9_singOne 92 = .ok (.iload_n 3, 1) := by decide +kernel
theorem dX9_singOne_93 : decode cX9_singOne 93 = .ok (.iaload, 1) := by decide +kernel
theorem dX9_singOne_94 : decode cX9_singOne 94 = .ok (.goto 4, 3) := by decide +kernel
theorem dX9_singOne_97 : decode cX9_singOne 97 = .ok (.iload_n 2, 1) := by decide +kernel
theorem dX9_singOne_98 : decode cX9_singOne 98 = .ok (.istore 4, 2) := by decide +kernel
theorem dX9_singOne_100 : decode cX9_singOne 100 = .ok (.aload_n 0, 1) := by decide +kernel
theorem dX9_singOne_101 : decode cX9_singOne 101 = .ok (.getfield 13, 3) := by decide +kernel
theorem dX9_singOne_104 : decode cX9_singOne 104 = .ok (.iload_n 3, 1) := by decide +kernel
theorem dX9_singOne_105 : decode cX9_singOne 105 = .ok (.dup2, 1) := by decide +kernel
theorem dX9_singOne_106 : decode cX9_singOne 106 = .ok (.iaload, 1) := by decide +kernel
theorem dX9_singOne_107 : decode cX9_singOne 107 = .ok (.iload 4, 2) := by decide +kernel
theorem dX9_singOne_109 : decode cX9_singOne 109 = .ok (.isub, 1) := by decide +kernel
theorem dX9_singOne_110 : decode cX9_singOne 110 = .ok (.iastore, 1) := by decide +kernel
theorem dX9_singOne_111 : decode cX9_singOne 111 = .ok (.aload_n 0, 1) := by decide +kernel
theorem dX9_singOne_112 : decode cX9_singOne 112 = .ok (.dup, 1) := by decide +kernel
theorem dX9_singOne_113 : decode cX9_singOne 113 = .ok (.getfield 163, 3) := by decide +kernel
theorem dX9_singOne_116 : decode cX9_singOne 116 = .ok (.iload 4, 2) := by decide +kernel
theorem dX9_singOne_118 : decode cX9_singOne 118 = .ok (.iadd, 1) := by decide +kernel
theorem dX9_singOne_119 : decode cX9_singOne 119 = .ok (.putfield 163, 3) := by decide +kernel
theorem dX9_singOne_122 : decode cX9_singOne 122 = .ok (.aload_n 0, 1) := by decide +kernel
theorem dX9_singOne_123 : decode cX9_singOne 123 = .ok (.dup, 1) := by decide +kernel
theorem dX9_singOne_124 : decode cX9_singOne 124 = .ok (.getfield 92, 3) := by decide +kernel
theorem dX9_singOne_127 : decode cX9_singOne 127 = .ok (.iconst 1, 1) := by decide +kernel
theorem dX9_singOne_128 : decode cX9_singOne 128 = .ok (.iload_n 3, 1) := by decide +kernel
theorem dX9_singOne_129 : decode cX9_singOne 129 = .ok (.ishl, 1) := by decide +kernel
theorem dX9_singOne_130 : decode cX9_singOne 130 = .ok (.ior, 1) := by decide +kernel
theorem dX9_singOne_131 : decode cX9_singOne 131 = .ok (.putfield 92, 3) := by decide +kernel
theorem dX9_singOne_134 : decode cX9_singOne 134 = .ok (.return_, 1) := by decide +kernel
theorem dX9_singPiece_0 : decode cX9_singPiece 0 = .ok (.aload_n 0, 1) := by decide +kernel
theorem dX9_singPiece_1 : decode cX9_singPiece 1 = .ok (.dup, 1) := by decide +kernel
theorem dX9_singPiece_2 : decode cX9_singPiece 2 = .ok (.getfield 166, 3) := by decide +kernel
theorem dX9_singPiece_5 : decode cX9_singPiece 5 = .ok (.iconst 1, 1) := by decide +kernel
theorem dX9_singPiece_6 : decode cX9_singPiece 6 = .ok (.iadd, 1) := by decide +kernel
theorem dX9_singPiece_7 : decode cX9_singPiece 7 = .ok (.putfield 166, 3) := by decide +kernel
theorem dX9_singPiece_10 : decode cX9_singPiece 10 = .ok (.iconst 0, 1) := by decide +kernel
theorem dX9_singPiece_11 : decode cX9_singPiece 11 = .ok (.istore_n 2, 1) := by decide +kernel
theorem dX9_singPiece_12 : decode cX9_singPiece 12 = .ok (.iload_n 2, 1) := by decide +kernel
theorem dX9_singPiece_13 : decode cX9_singPiece 13 = .ok (.iconst 4, 1) := by decide +kernel
theorem dX9_singPiece_14 : decode cX9_singPiece 14 = .ok (.if_icmp .ge 49, 3) := by decide +kernel
theorem dX9_singPiece_17 : decode cX9_singPiece 17 = .ok (.iconst 0, 1) := by decide +kernel
theorem dX9_singPiece_18 : decode cX9_singPiece 18 = .ok (.istore_n 3, 1) := by decide +kernel
theorem dX9_singPiece_19 : decode cX9_singPiece 19 = .ok (.iload_n 3, 1) := by decide +kernel
theorem dX9_singPiece_20 : decode cX9_singPiece 20 = .ok (.aload_n 0, 1) := by decide +kernel
theorem dX9_singPiece_21 : decode cX9_singPiece 21 = .ok (.getfield 16, 3) := by decide +kernel
theorem dX9_singPiece_24 : decode cX9_singPiece 24 = .ok (.iconst 4, 1) := by decide +kernel
theorem dX9_singPiece_25 : decode cX9_singPiece 25 = .ok (.iload_n 1, 1) := by decide +kernel
theorem dX9_singPiece_26 : decode cX9_singPiece 26 = .ok (.imul, 1) := by decide +kernel
theorem dX9_singPiece_27 : decode cX9_singPiece 27 = .ok (.iload_n 2, 1) := by decide +kernel
theorem dX9_singPiece_28 : decode cX9_singPiece 28 = .ok (.iadd, 1) := by decide +kernel
theorem dX9_singPiece_29 : decode cX9_singPiece 29 = .ok (.iaload, 1) := by decide +kernel
theorem dX9_singPiece_30 : decode cX9_singPiece 30 = .ok (.if_icmp .ge 27, 3) := by decide +kernel
theorem dX9_singPiece_33 : decode cX9_singPiece 33 = .ok (.aload_n 0, 1) := by decide +kernel
theorem dX9_singPiece_34 : decode cX9_singPiece 34 = .ok (.iload_n 2, 1) := by decide +kernel
theorem dX9_singPiece_35 : decode cX9_singPiece 35 = .ok (.aload_n 0, 1) := by decide +kernel
theorem dX9_singPiece_36 : decode cX9_singPiece 36 = .ok (.getfield 19, 3) := by decide +kernel
theorem dX9_singPiece_39 : decode cX9_singPiece 39 = .ok (.iload_n 1, 1) := by decide +kernel
theorem dX9_singPiece_40 : decode cX9_singPiece 40 = .ok (.iaload, 1) := by decide +kernel
theorem dX9_singPiece_41 : decode cX9_singPiece 41 = .ok (.aload_n 0, 1) := by decide +kernel
theorem dX9_singPiece_42 : decode cX9_singPiece 42 = .ok (.getfield 22, 3) := by decide +kernel
theorem dX9_singPiece_45 : decode cX9_singPiece 45 = .ok (.iload_n 1, 1) := by decide +kernel
theorem dX9_singPiece_46 : decode cX9_singPiece 46 = .ok (.iaload, 1) := by decide +kernel
theorem dX9_singPiece_47 : decode cX9_singPiece 47 = .ok (.imul, 1) := by decide +kernel
theorem dX9_singPiece_48 : decode cX9_singPiece 48 = .ok (.invokevirtual 169, 3) := by decide +kernel
theorem dX9_singPiece_51 : decode cX9_singPiece 51 = .ok (.iinc 3 1, 3) := by decide +kernel
theorem dX9_singPiece_54 : decode cX9_singPiece 54 = .ok (.goto (-35), 3) := by decide +kernel
theorem dX9_singPiece_57 : decode cX9_singPiece 57 = .ok (.iinc 2 1, 3) := by decide +kernel
theorem dX9_singPiece_60 : decode cX9_singPiece 60 = .ok (.goto (-48), 3) := by decide +kernel
theorem dX9_singPiece_63 : decode cX9_singPiece 63 = .ok (.return_, 1) := by decide +kernel
theorem dX9_endEvening_0 : decode cX9_endEvening 0 = .ok (.iconst 0, 1) := by decide +kernel
theorem dX9_endEvening_1 : decode cX9_endEvening 1 = .ok (.istore_n 1, 1) := by decide +kernel
theorem dX9_endEvening_2 : decode cX9_endEvening 2 = .ok (.iload_n 1, 1) := by decide +kernel
theorem dX9_endEvening_3 : decode cX9_endEvening 3 = .ok (.bipush 8, 2) := by decide +kernel
theorem dX9_endEvening_5 : decode cX9_endEvening 5 = .ok (.if_icmp .ge 96, 3) := by decide +kernel
theorem dX9_endEvening_8 : decode cX9_endEvening 8 = .ok (.aload_n 0, 1) := by decide +kernel
theorem dX9_endEvening_9 : decode cX9_endEvening 9 = .ok (.iload_n 1, 1) := by decide +kernel
theorem dX9_endEvening_10 : decode cX9_endEvening 10 = .ok (.invokevirtual 99, 3) := by decide +kernel
theorem dX9_endEvening_13 : decode cX9_endEvening 13 = .ok (.ifCond .eq 30, 3) := by decide +kernel
theorem dX9_endEvening_16 : decode cX9_endEvening 16 = .ok (.aload_n 0, 1) := by decide +kernel
theorem dX9_endEvening_17 : decode cX9_endEvening 17 = .ok (.getfield 89, 3) := by decide +kernel
theorem dX9_endEvening_20 : decode cX9_endEvening 20 = .ok (.iload_n 1, 1) := by decide +kernel
theorem dX9_endEvening_21 : decode cX9_endEvening 21 = .ok (.ishr, 1) := by decide +kernel
theorem dX9_endEvening_22 : decode cX9_endEvening 22 = .ok (.iconst 1, 1) := by decide +kernel
theorem dX9_endEvening_23 : decode cX9_endEvening 23 = .ok (.iand, 1) := by decide +kernel
theorem dX9_endEvening_24 : decode cX9_endEvening 24 = .ok (.iconst 1, 1) := by decide +kernel
theorem dX9_endEvening_25 : decode cX9_endEvening 25 = .ok (.if_icmp .eq 14, 3) := by decide +kernel
theorem dX9_endEvening_28 : decode cX9_endEvening 28 = .ok (.aload_n 0, 1) := by decide +kernel
theorem dX9_endEvening_29 : decode cX9_endEvening 29 = .ok (.getfield 92, 3) := by decide +kernel
theorem dX9_endEvening_32 : decode cX9_endEvening 32 = .ok (.iload_n 1, 1) := by decide +kernel
theorem dX9_endEvening_33 : decode cX9_endEvening 33 = .ok (.ishr, 1) := by decide +kernel
theorem dX9_endEvening_34 : decode cX9_endEvening 34 = .ok (.iconst 1, 1) := by decide +kernel
theorem dX9_endEvening_35 : decode cX9_endEvening 35 = .ok (.iand, 1) := by decide +kernel
theorem dX9_endEvening_36 : decode cX9_endEvening 36 = .ok (.ifCond .ne 7, 3) := by decide +kernel
theorem dX9_endEvening_39 : decode cX9_endEvening 39 = .ok (.iconst 1, 1) := by decide +kernel
theorem dX9_endEvening_40 : decode cX9_endEvening 40 = .ok (.goto 4, 3) := by decide +kernel
theorem dX9_endEvening_43 : decode cX9_endEvening 43 = .ok (.iconst 0, 1) := by decide +kernel
theorem dX9_endEvening_44 : decode cX9_endEvening 44 = .ok (.istore_n 2, 1) := by decide +kernel
theorem dX9_endEvening_45 : decode cX9_endEvening 45 = .ok (.iload_n 2, 1) := by decide +kernel
theorem dX9_endEvening_46 : decode cX9_endEvening 46 = .ok (.ifCond .eq 22, 3) := by decide +kernel
theorem dX9_endEvening_49 : decode cX9_endEvening 49 = .ok (.aload_n 0, 1) := by decide +kernel
theorem dX9_endEvening_50 : decode cX9_endEvening 50 = .ok (.getfield 13, 3) := by decide +kernel
theorem dX9_endEvening_53 : decode cX9_endEvening 53 = .ok (.iload_n 1, 1) := by decide +kernel
theorem dX9_endEvening_54 : decode cX9_endEvening 54 = .ok (.iaload, 1) := by decide +kernel
theorem dX9_endEvening_55 : decode cX9_endEvening 55 = .ok (.aload_n 0, 1) := by decide +kernel
theorem dX9_endEvening_56 : decode cX9_endEvening 56 = .ok (.getfield 13, 3) := by decide +kernel
theorem dX9_endEvening_59 : decode cX9_endEvening 59 = .ok (.iload_n 1, 1) := by decide +kernel
theorem dX9_endEvening_60 : decode cX9_endEvening 60 = .ok (.iaload, 1) := by decide +kernel
theorem dX9_endEvening_61 : decode cX9_endEvening 61 = .ok (.bipush 10, 2) := by decide +kernel
theorem dX9_endEvening_63 : decode cX9_endEvening 63 = .ok (.idiv, 1) := by decide +kernel
theorem dX9_endEvening_64 : decode cX9_endEvening 64 = .ok (.iadd, 1) := by decide +kernel
theorem dX9_endEvening_65 : decode cX9_endEvening 65 = .ok (.goto 9, 3) := by decide +kernel
theorem dX9_endEvening_68 : decode cX9_endEvening 68 = .ok (.aload_n 0, 1) := by decide +kernel
theorem dX9_endEvening_69 : decode cX9_endEvening 69 = .ok (.getfield 13, 3) := by decide +kernel
theorem dX9_endEvening_72 : decode cX9_endEvening 72 = .ok (.iload_n 1, 1) := by decide +kernel
theorem dX9_endEvening_73 : decode cX9_endEvening 73 = .ok (.iaload, 1) := by decide +kernel
theorem dX9_endEvening_74 : decode cX9_endEvening 74 = .ok (.istore_n 3, 1) := by decide +kernel
theorem dX9_endEvening_75 : decode cX9_endEvening 75 = .ok (.aload_n 0, 1) := by decide +kernel
theorem dX9_endEvening_76 : decode cX9_endEvening 76 = .ok (.getfield 13, 3) := by decide +kernel
theorem dX9_endEvening_79 : decode cX9_endEvening 79 = .ok (.iload_n 1, 1) := by decide +kernel
theorem dX9_endEvening_80 : decode cX9_endEvening 80 = .ok (.iload_n 3, 1) := by decide +kernel
theorem dX9_endEvening_81 : decode cX9_endEvening 81 = .ok (.sipush 999, 3) := by decide +kernel
theorem dX9_endEvening_84 : decode cX9_endEvening 84 = .ok (.if_icmp .le 9, 3) := by decide +kernel
theorem dX9_endEvening_87 : decode cX9_endEvening 87 = .ok (.sipush 999, 3) := by decide +kernel
theorem dX9_endEvening_90 : decode cX9_endEvening 90 = .ok (.goto 4, 3) := by decide +kernel
theorem dX9_endEvening_93 : decode cX9_endEvening 93 = .ok (.iload_n 3, 1) := by decide +kernel
theorem dX9_endEvening_94 : decode cX9_endEvening 94 = .ok (.iastore, 1) := by decide +kernel
theorem dX9_endEvening_95 : decode cX9_endEvening 95 = .ok (.iinc 1 1, 3) := by decide +kernel
theorem dX9_endEvening_98 : decode cX9_endEvening 98 = .ok (.goto (-96), 3) := by decide +kernel
theorem dX9_endEvening_101 : decode cX9_endEvening 101 = .ok (.aload_n 0, 1) := by decide +kernel
theorem dX9_endEvening_102 : decode cX9_endEvening 102 = .ok (.iconst 0, 1) := by decide +kernel
theorem dX9_endEvening_103 : decode cX9_endEvening 103 = .ok (.putfield 92, 3) := by decide +kernel
theorem dX9_endEvening_106 : decode cX9_endEvening 106 = .ok (.aload_n 0, 1) := by decide +kernel
theorem dX9_endEvening_107 : decode cX9_endEvening 107 = .ok (.dup, 1) := by decide +kernel
theorem dX9_endEvening_108 : decode cX9_endEvening 108 = .ok (.getfield 154, 3) := by decide +kernel
theorem dX9_endEvening_111 : decode cX9_endEvening 111 = .ok (.iconst 1, 1) := by decide +kernel
theorem dX9_endEvening_112 : decode cX9_endEvening 112 = .ok (.iadd, 1) := by decide +kernel
theorem dX9_endEvening_113 : decode cX9_endEvening 113 = .ok (.putfield 154, 3) := by decide +kernel
theorem dX9_endEvening_116 : decode cX9_endEvening 116 = .ok (.return_, 1) := by decide +kernel
theorem dX9_happen_0 : decode cX9_happen 0 = .ok (.iload_n 1, 1) := by decide +kernel
theorem dX9_happen_1 : decode cX9_happen 1 = .ok (.tableswitch 106 0 4 #[35, 43, 56, 71, 96], 35) := by decide +kernel
theorem dX9_happen_36 : decode cX9_happen 36 = .ok (.aload_n 0, 1) := by decide +kernel
theorem dX9_happen_37 : decode cX9_happen 37 = .ok (.iload_n 2, 1) := by decide +kernel
theorem dX9_happen_38 : decode cX9_happen 38 = .ok (.invokevirtual 173, 3) := by decide +kernel
theorem dX9_happen_41 : decode cX9_happen 41 = .ok (.goto 70, 3) := by decide +kernel
theorem dX9_happen_44 : decode cX9_happen 44 = .ok (.aload_n 0, 1) := by decide +kernel
theorem dX9_happen_45 : decode cX9_happen 45 = .ok (.getfield 13, 3) := by decide +kernel
theorem dX9_happen_48 : decode cX9_happen 48 = .ok (.iload_n 2, 1) := by decide +kernel
theorem dX9_happen_49 : decode cX9_happen 49 = .ok (.dup2, 1) := by decide +kernel
theorem dX9_happen_50 : decode cX9_happen 50 = .ok (.iaload, 1) := by decide +kernel
theorem dX9_happen_51 : decode cX9_happen 51 = .ok (.iload_n 3, 1) := by decide +kernel
theorem dX9_happen_52 : decode cX9_happen 52 = .ok (.iadd, 1) := by decide +kernel
theorem dX9_happen_53 : decode cX9_happen 53 = .ok (.iastore, 1) := by decide +kernel
theorem dX9_happen_54 : decode cX9_happen 54 = .ok (.goto 57, 3) := by decide +kernel
theorem dX9_happen_57 : decode cX9_happen 57 = .ok (.aload_n 0, 1) := by decide +kernel
theorem dX9_happen_58 : decode cX9_happen 58 = .ok (.dup, 1) := by decide +kernel
theorem dX9_happen_59 : decode cX9_happen 59 = .ok (.getfield 89, 3) := by decide +kernel
theorem dX9_happen_62 : decode cX9_happen 62 = .ok (.iconst 1, 1) := by decide +kernel
theorem dX9_happen_63 : decode cX9_happen 63 = .ok (.iload_n 2, 1) := by decide +kernel
theorem dX9_happen_64 : decode cX9_happen 64 = .ok (.ishl, 1) := by decide +kernel
theorem dX9_happen_65 : decode cX9_happen 65 = .ok (.ixor, 1) := by decide +kernel
theorem dX9_happen_66 : decode cX9_happen 66 = .ok (.putfield 89, 3) := by decide +kernel
theorem dX9_happen_69 : decode cX9_happen 69 = .ok (.goto 42, 3) := by decide +kernel
theorem dX9_happen_72 : decode cX9_happen 72 = .ok (.aload_n 0, 1) := by decide +kernel
theorem dX9_happen_73 : decode cX9_happen 73 = .ok (.getfield 13, 3) := by decide +kernel
theorem dX9_happen_76 : decode cX9_happen 76 = .ok (.iload_n 3, 1) := by decide +kernel
theorem dX9_happen_77 : decode cX9_happen 77 = .ok (.dup2, 1) := by decide +kernel
theorem dX9_happen_78 : decode cX9_happen 78 = .ok (.iaload, 1) := by decide +kernel
theorem dX9_happen_79 : decode cX9_happen 79 = .ok (.aload_n 0, 1) := by decide +kernel
theorem dX9_happen_80 : decode cX9_happen 80 = .ok (.getfield 13, 3) := by decide +kernel
theorem dX9_happen_83 : decode cX9_happen 83 = .ok (.iload_n 2, 1) := by decide +kernel
theorem dX9_happen_84 : decode cX9_happen 84 = .ok (.iaload, 1) := by decide +kernel
theorem dX9_happen_85 : decode cX9_happen 85 = .ok (.iadd, 1) := by decide +kernel
theorem dX9_happen_86 : decode cX9_happen 86 = .ok (.iastore, 1) := by decide +kernel
theorem dX9_happen_87 : decode cX9_happen 87 = .ok (.aload_n 0, 1) := by decide +kernel
theorem dX9_happen_88 : decode cX9_happen 88 = .ok (.getfield 13, 3) := by decide +kernel
theorem dX9_happen_91 : decode cX9_happen 91 = .ok (.iload_n 2, 1) := by decide +kernel
theorem dX9_happen_92 : decode cX9_happen 92 = .ok (.iconst 0, 1) := by decide +kernel
theorem dX9_happen_93 : decode cX9_happen 93 = .ok (.iastore, 1) := by decide +kernel
theorem dX9_happen_94 : decode cX9_happen 94 = .ok (.goto 17, 3) := by decide +kernel
theorem dX9_happen_97 : decode cX9_happen 97 = .ok (.aload_n 0, 1) := by decide +kernel
theorem dX9_happen_98 : decode cX9_happen 98 = .ok (.getfield 13, 3) := by decide +kernel
theorem dX9_happen_101 : decode cX9_happen 101 = .ok (.iload_n 2, 1) := by decide +kernel
theorem dX9_happen_102 : decode cX9_happen 102 = .ok (.iconst 0, 1) := by decide +kernel
theorem dX9_happen_103 : decode cX9_happen 103 = .ok (.iastore, 1) := by decide +kernel
theorem dX9_happen_104 : decode cX9_happen 104 = .ok (.goto 7, 3) := by decide +kernel
theorem dX9_happen_107 : decode cX9_happen 107 = .ok (.aload_n 0, 1) := by decide +kernel
theorem dX9_happen_108 : decode cX9_happen 108 = .ok (.invokevirtual 177, 3) := by decide +kernel
theorem dX9_happen_111 : decode cX9_happen 111 = .ok (.return_, 1) := by decide +kernel
theorem dX9_keepNow_0 : decode cX9_keepNow 0 = .ok (.iconst 0, 1) := by decide +kernel
theorem dX9_keepNow_1 : decode cX9_keepNow 1 = .ok (.istore_n 1, 1) := by decide +kernel
theorem dX9_keepNow_2 : decode cX9_keepNow 2 = .ok (.iload_n 1, 1) := by decide +kernel
theorem dX9_keepNow_3 : decode cX9_keepNow 3 = .ok (.bipush 8, 2) := by decide +kernel
theorem dX9_keepNow_5 : decode cX9_keepNow 5 = .ok (.if_icmp .ge 21, 3) := by decide +kernel
theorem dX9_keepNow_8 : decode cX9_keepNow 8 = .ok (.aload_n 0, 1) := by decide +kernel
theorem dX9_keepNow_9 : decode cX9_keepNow 9 = .ok (.getfield 43, 3) := by decide +kernel
theorem dX9_keepNow_12 : decode cX9_keepNow 12 = .ok (.iload_n 1, 1) := by decide +kernel
theorem dX9_keepNow_13 : decode cX9_keepNow 13 = .ok (.aload_n 0, 1) := by decide +kernel
theorem dX9_keepNow_14 : decode cX9_keepNow 14 = .ok (.getfield 13, 3) := by decide +kernel
theorem dX9_keepNow_17 : decode cX9_keepNow 17 = .ok (.iload_n 1, 1) := by decide +kernel
theorem dX9_keepNow_18 : decode cX9_keepNow 18 = .ok (.iaload, 1) := by decide +kernel
theorem dX9_keepNow_19 : decode cX9_keepNow 19 = .ok (.iastore, 1) := by decide +kernel
theorem dX9_keepNow_20 : decode cX9_keepNow 20 = .ok (.iinc 1 1, 3) := by decide +kernel
theorem dX9_keepNow_23 : decode cX9_keepNow 23 = .ok (.goto (-21), 3) := by decide +kernel
theorem dX9_keepNow_26 : decode cX9_keepNow 26 = .ok (.aload_n 0, 1) := by decide +kernel
theorem dX9_keepNow_27 : decode cX9_keepNow 27 = .ok (.getfield 43, 3) := by decide +kernel
theorem dX9_keepNow_30 : decode cX9_keepNow 30 = .ok (.bipush 8, 2) := by decide +kernel
theorem dX9_keepNow_32 : decode cX9_keepNow 32 = .ok (.aload_n 0, 1) := by decide +kernel
theorem dX9_keepNow_33 : decode cX9_keepNow 33 = .ok (.getfield 89, 3) := by decide +kernel
theorem dX9_keepNow_36 : decode cX9_keepNow 36 = .ok (.iastore, 1) := by decide +kernel
theorem dX9_keepNow_37 : decode cX9_keepNow 37 = .ok (.aload_n 0, 1) := by decide +kernel
theorem dX9_keepNow_38 : decode cX9_keepNow 38 = .ok (.getfield 43, 3) := by decide +kernel
theorem dX9_keepNow_41 : decode cX9_keepNow 41 = .ok (.bipush 9, 2) := by decide +kernel
theorem dX9_keepNow_43 : decode cX9_keepNow 43 = .ok (.aload_n 0, 1) := by decide +kernel
theorem dX9_keepNow_44 : decode cX9_keepNow 44 = .ok (.getfield 92, 3) := by decide +kernel
theorem dX9_keepNow_47 : decode cX9_keepNow 47 = .ok (.iastore, 1) := by decide +kernel
theorem dX9_keepNow_48 : decode cX9_keepNow 48 = .ok (.aload_n 0, 1) := by decide +kernel
theorem dX9_keepNow_49 : decode cX9_keepNow 49 = .ok (.getfield 43, 3) := by decide +kernel
theorem dX9_keepNow_52 : decode cX9_keepNow 52 = .ok (.bipush 10, 2) := by decide +kernel
theorem dX9_keepNow_54 : decode cX9_keepNow 54 = .ok (.aload_n 0, 1) := by decide +kernel
theorem dX9_keepNow_55 : decode cX9_keepNow 55 = .ok (.getfield 154, 3) := by decide +kernel
theorem dX9_keepNow_58 : decode cX9_keepNow 58 = .ok (.iastore, 1) := by decide +kernel
theorem dX9_keepNow_59 : decode cX9_keepNow 59 = .ok (.return_, 1) := by decide +kernel
theorem dX9_back_0 : decode cX9_back 0 = .ok (.iconst 0, 1) := by decide +kernel
theorem dX9_back_1 : decode cX9_back 1 = .ok (.istore_n 2, 1) := by decide +kernel
theorem dX9_back_2 : decode cX9_back 2 = .ok (.iload_n 2, 1) := by decide +kernel
theorem dX9_back_3 : decode cX9_back 3 = .ok (.bipush 8, 2) := by decide +kernel
theorem dX9_back_5 : decode cX9_back 5 = .ok (.if_icmp .ge 21, 3) := by decide +kernel
theorem dX9_back_8 : decode cX9_back 8 = .ok (.aload_n 0, 1) := by decide +kernel
theorem dX9_back_9 : decode cX9_back 9 = .ok (.getfield 13, 3) := by decide +kernel
theorem dX9_back_12 : decode cX9_back 12 = .ok (.iload_n 2, 1) := by decide +kernel
theorem dX9_back_13 : decode cX9_back 13 = .ok (.aload_n 0, 1) := by decide +kernel
theorem dX9_back_14 : decode cX9_back 14 = .ok (.getfield 43, 3) := by decide +kernel
theorem dX9_back_17 : decode cX9_back 17 = .ok (.iload_n 2, 1) := by decide +kernel
theorem dX9_back_18 : decode cX9_back 18 = .ok (.iaload, 1) := by decide +kernel
theorem dX9_back_19 : decode cX9_back 19 = .ok (.iastore, 1) := by decide +kernel
theorem dX9_back_20 : decode cX9_back 20 = .ok (.iinc 2 1, 3) := by decide +kernel
theorem dX9_back_23 : decode cX9_back 23 = .ok (.goto (-21), 3) := by decide +kernel
theorem dX9_back_26 : decode cX9_back 26 = .ok (.aload_n 0, 1) := by decide +kernel
theorem dX9_back_27 : decode cX9_back 27 = .ok (.aload_n 0, 1) := by decide +kernel
theorem dX9_back_28 : decode cX9_back 28 = .ok (.getfield 43, 3) := by decide +kernel
theorem dX9_back_31 : decode cX9_back 31 = .ok (.bipush 8, 2) := by decide +kernel
theorem dX9_back_33 : decode cX9_back 33 = .ok (.iaload, 1) := by decide +kernel
theorem dX9_back_34 : decode cX9_back 34 = .ok (.putfield 89, 3) := by decide +kernel
theorem dX9_back_37 : decode cX9_back 37 = .ok (.aload_n 0, 1) := by decide +kernel
theorem dX9_back_38 : decode cX9_back 38 = .ok (.aload_n 0, 1) := by decide +kernel
theorem dX9_back_39 : decode cX9_back 39 = .ok (.getfield 43, 3) := by decide +kernel
theorem dX9_back_42 : decode cX9_back 42 = .ok (.bipush 9, 2) := by decide +kernel
theorem dX9_back_44 : decode cX9_back 44 = .ok (.iaload, 1) := by decide +kernel
theorem dX9_back_45 : decode cX9_back 45 = .ok (.putfield 92, 3) := by decide +kernel
theorem dX9_back_48 : decode cX9_back 48 = .ok (.aload_n 0, 1) := by decide +kernel
theorem dX9_back_49 : decode cX9_back 49 = .ok (.aload_n 0, 1) := by decide +kernel
theorem dX9_back_50 : decode cX9_back 50 = .ok (.getfield 43, 3) := by decide +kernel
theorem dX9_back_53 : decode cX9_back 53 = .ok (.bipush 10, 2) := by decide +kernel
theorem dX9_back_55 : decode cX9_back 55 = .ok (.iaload, 1) := by decide +kernel
theorem dX9_back_56 : decode cX9_back 56 = .ok (.putfield 154, 3) := by decide +kernel
theorem dX9_back_59 : decode cX9_back 59 = .ok (.iload_n 1, 1) := by decide +kernel
theorem dX9_back_60 : decode cX9_back 60 = .ok (.ireturn, 1) := by decide +kernel
theorem dX9_owing_0 : decode cX9_owing 0 = .ok (.iconst 0, 1) := by decide +kernel
theorem dX9_owing_1 : decode cX9_owing 1 = .ok (.istore_n 1, 1) := by decide +kernel
theorem dX9_owing_2 : decode cX9_owing 2 = .ok (.iconst 0, 1) := by decide +kernel
theorem dX9_owing_3 : decode cX9_owing 3 = .ok (.istore_n 2, 1) := by decide +kernel
theorem dX9_owing_4 : decode cX9_owing 4 = .ok (.iload_n 2, 1) := by decide +kernel
theorem dX9_owing_5 : decode cX9_owing 5 = .ok (.bipush 8, 2) := by decide +kernel
theorem dX9_owing_7 : decode cX9_owing 7 = .ok (.if_icmp .ge 36, 3) := by decide +kernel
theorem dX9_owing_10 : decode cX9_owing 10 = .ok (.iload_n 1, 1) := by decide +kernel
theorem dX9_owing_11 : decode cX9_owing 11 = .ok (.aload_n 0, 1) := by decide +kernel
theorem dX9_owing_12 : decode cX9_owing 12 = .ok (.iload_n 2, 1) := by decide +kernel
theorem dX9_owing_13 : decode cX9_owing 13 = .ok (.invokevirtual 99, 3) := by decide +kernel
theorem dX9_owing_16 : decode cX9_owing 16 = .ok (.ifCond .eq 18, 3) := by decide +kernel
theorem dX9_owing_19 : decode cX9_owing 19 = .ok (.aload_n 0, 1) := by decide +kernel
theorem dX9_owing_20 : decode cX9_owing 20 = .ok (.getfield 13, 3) := by decide +kernel
theorem dX9_owing_23 : decode cX9_owing 23 = .ok (.iload_n 2, 1) := by decide +kernel
theorem dX9_owing_24 : decode cX9_owing 24 = .ok (.iaload, 1) := by decide +kernel
theorem dX9_owing_25 : decode cX9_owing 25 = .ok (.ifCond .le 9, 3) := by decide +kernel
theorem dX9_owing_28 : decode cX9_owing 28 = .ok (.iconst 1, 1) := by decide +kernel
theorem dX9_owing_29 : decode cX9_owing 29 = .ok (.iload_n 2, 1) := by decide +kernel
theorem dX9_owing_30 : decode cX9_owing 30 = .ok (.ishl, 1) := by decide +kernel
theorem dX9_owing_31 : decode cX9_owing 31 = .ok (.goto 4, 3) := by decide +kernel
theorem dX9_owing_34 : decode cX9_owing 34 = .ok (.iconst 0, 1) := by decide +kernel
theorem dX9_owing_35 : decode cX9_owing 35 = .ok (.ior, 1) := by decide +kernel
theorem dX9_owing_36 : decode cX9_owing 36 = .ok (.istore_n 1, 1) := by decide +kernel
theorem dX9_owing_37 : decode cX9_owing 37 = .ok (.iinc 2 1, 3) := by decide +kernel
theorem dX9_owing_40 : decode cX9_owing 40 = .ok (.goto (-36), 3) := by decide +kernel
theorem dX9_owing_43 : decode cX9_owing 43 = .ok (.iload_n 1, 1) := by decide +kernel
theorem dX9_owing_44 : decode cX9_owing 44 = .ok (.ireturn, 1) := by decide +kernel
theorem dX9_leastOf_0 : decode cX9_leastOf 0 = .ok (.iconst 0, 1) := by decide +kernel
theorem dX9_leastOf_1 : decode cX9_leastOf 1 = .ok (.istore_n 1, 1) := by decide +kernel
theorem dX9_leastOf_2 : decode cX9_leastOf 2 = .ok (.iload_n 0, 1) := by decide +kernel
theorem dX9_leastOf_3 : decode cX9_leastOf 3 = .ok (.iload_n 1, 1) := by decide +kernel
theorem dX9_leastOf_4 : decode cX9_leastOf 4 = .ok (.ishr, 1) := by decide +kernel
theorem dX9_leastOf_5 : decode cX9_leastOf 5 = .ok (.iconst 1, 1) := by decide +kernel
theorem dX9_leastOf_6 : decode cX9_leastOf 6 = .ok (.iand, 1) := by decide +kernel
theorem dX9_leastOf_7 : decode cX9_leastOf 7 = .ok (.ifCond .ne 9, 3) := by decide +kernel
theorem dX9_leastOf_10 : decode cX9_leastOf 10 = .ok (.iinc 1 1, 3) := by decide +kernel
theorem dX9_leastOf_13 : decode cX9_leastOf 13 = .ok (.goto (-11), 3) := by decide +kernel
theorem dX9_leastOf_16 : decode cX9_leastOf 16 = .ok (.iload_n 1, 1) := by decide +kernel
theorem dX9_leastOf_17 : decode cX9_leastOf 17 = .ok (.ireturn, 1) := by decide +kernel
theorem dX9_goEvenings_0 : decode cX9_goEvenings 0 = .ok (.aload_n 0, 1) := by decide +kernel
theorem dX9_goEvenings_1 : decode cX9_goEvenings 1 = .ok (.iconst 0, 1) := by decide +kernel
theorem dX9_goEvenings_2 : decode cX9_goEvenings 2 = .ok (.putfield 163, 3) := by decide +kernel
theorem dX9_goEvenings_5 : decode cX9_goEvenings 5 = .ok (.aload_n 0, 1) := by decide +kernel
theorem dX9_goEvenings_6 : decode cX9_goEvenings 6 = .ok (.iconst 0, 1) := by decide +kernel
theorem dX9_goEvenings_7 : decode cX9_goEvenings 7 = .ok (.putfield 166, 3) := by decide +kernel
theorem dX9_goEvenings_10 : decode cX9_goEvenings 10 = .ok (.aload_n 0, 1) := by decide +kernel
theorem dX9_goEvenings_11 : decode cX9_goEvenings 11 = .ok (.bipush (-6), 2) := by decide +kernel
theorem dX9_goEvenings_13 : decode cX9_goEvenings 13 = .ok (.putfield 180, 3) := by decide +kernel
theorem dX9_goEvenings_16 : decode cX9_goEvenings 16 = .ok (.aload_n 0, 1) := by decide +kernel
theorem dX9_goEvenings_17 : decode cX9_goEvenings 17 = .ok (.bipush (-6), 2) := by decide +kernel
theorem dX9_goEvenings_19 : decode cX9_goEvenings 19 = .ok (.putfield 183, 3) := by decide +kernel
theorem dX9_goEvenings_22 : decode cX9_goEvenings 22 = .ok (.aload_n 0, 1) := by decide +kernel
theorem dX9_goEvenings_23 : decode cX9_goEvenings 23 = .ok (.bipush (-6), 2) := by decide +kernel
theorem dX9_goEvenings_25 : decode cX9_goEvenings 25 = .ok (.putfield 186, 3) := by decide +kernel
theorem dX9_goEvenings_28 : decode cX9_goEvenings 28 = .ok (.aload_n 0, 1) := by decide +kernel
theorem dX9_goEvenings_29 : decode cX9_goEvenings 29 = .ok (.bipush (-6), 2) := by decide +kernel
theorem dX9_goEvenings_31 : decode cX9_goEvenings 31 = .ok (.putfield 189, 3) := by decide +kernel
theorem dX9_goEvenings_34 : decode cX9_goEvenings 34 = .ok (.iconst 0, 1) := by decide +kernel
theorem dX9_goEvenings_35 : decode cX9_goEvenings 35 = .ok (.istore_n 1, 1) := by decide +kernel
theorem dX9_goEvenings_36 : decode cX9_goEvenings 36 = .ok (.iload_n 1, 1) := by decide +kernel
theorem dX9_goEvenings_37 : decode cX9_goEvenings 37 = .ok (.aload_n 0, 1) := by decide +kernel
theorem dX9_goEvenings_38 : decode cX9_goEvenings 38 = .ok (.getfield 121, 3) := by decide +kernel
theorem dX9_goEvenings_41 : decode cX9_goEvenings 41 = .ok (.if_icmp .ge 76, 3) := by decide +kernel
theorem dX9_goEvenings_44 : decode cX9_goEvenings 44 = .ok (.aload_n 0, 1) := by decide +kernel
theorem dX9_goEvenings_45 : decode cX9_goEvenings 45 = .ok (.getfield 180, 3) := by decide +kernel
theorem dX9_goEvenings_48 : decode cX9_goEvenings 48 = .ok (.ifCond .ge 69, 3) := by decide +kernel
theorem dX9_goEvenings_51 : decode cX9_goEvenings 51 = .ok (.aload_n 0, 1) := by decide +kernel
theorem dX9_goEvenings_52 : decode cX9_goEvenings 52 = .ok (.aload_n 0, 1) := by decide +kernel
theorem dX9_goEvenings_53 : decode cX9_goEvenings 53 = .ok (.getfield 34, 3) := by decide +kernel
theorem dX9_goEvenings_56 : decode cX9_goEvenings 56 = .ok (.iload_n 1, 1) := by decide +kernel
theorem dX9_goEvenings_57 : decode cX9_goEvenings 57 = .ok (.iaload, 1) := by decide +kernel
theorem dX9_goEvenings_58 : decode cX9_goEvenings 58 = .ok (.aload_n 0, 1) := by decide +kernel
theorem dX9_goEvenings_59 : decode cX9_goEvenings 59 = .ok (.getfield 37, 3) := by decide +kernel
theorem dX9_goEvenings_62 : decode cX9_goEvenings 62 = .ok (.iload_n 1, 1) := by decide +kernel
theorem dX9_goEvenings_63 : decode cX9_goEvenings 63 = .ok (.iaload, 1) := by decide +kernel
theorem dX9_goEvenings_64 : decode cX9_goEvenings 64 = .ok (.aload_n 0, 1) := by decide +kernel
theorem dX9_goEvenings_65 : decode cX9_goEvenings 65 = .ok (.getfield 40, 3) := by decide +kernel
theorem dX9_goEvenings_68 : decode cX9_goEvenings 68 = .ok (.iload_n 1, 1) := by decide +kernel
theorem dX9_goEvenings_69 : decode cX9_goEvenings 69 = .ok (.iaload, 1) := by decide +kernel
theorem dX9_goEvenings_70 : decode cX9_goEvenings 70 = .ok (.invokevirtual 192, 3) := by decide +kernel
theorem dX9_goEvenings_73 : decode cX9_goEvenings 73 = .ok (.istore_n 2, 1) := by decide +kernel
theorem dX9_goEvenings_74 : decode cX9_goEvenings 74 = .ok (.aload_n 0, 1) := by decide +kernel
theorem dX9_goEvenings_75 : decode cX9_goEvenings 75 = .ok (.iload_n 2, 1) := by decide +kernel
theorem dX9_goEvenings_76 : decode cX9_goEvenings 76 = .ok (.ifCond .le 7, 3) := by decide +kernel
theorem dX9_goEvenings_79 : decode cX9_goEvenings 79 = .ok (.iload_n 1, 1) := by decide +kernel
theorem dX9_goEvenings_80 : decode cX9_goEvenings 80 = .ok (.goto 5, 3) := by decide +kernel
theorem dX9_goEvenings_83 : decode cX9_goEvenings 83 = .ok (.bipush (-6), 2) := by decide +kernel
theorem dX9_goEvenings_85 : decode cX9_goEvenings 85 = .ok (.putfield 180, 3) := by decide +kernel
theorem dX9_goEvenings_88 : decode cX9_goEvenings 88 = .ok (.aload_n 0, 1) := by decide +kernel
theorem dX9_goEvenings_89 : decode cX9_goEvenings 89 = .ok (.iload_n 2, 1) := by decide +kernel
theorem dX9_goEvenings_90 : decode cX9_goEvenings 90 = .ok (.ifCond .le 7, 3) := by decide +kernel
theorem dX9_goEvenings_93 : decode cX9_goEvenings 93 = .ok (.iload_n 2, 1) := by decide +kernel
theorem dX9_goEvenings_94 : decode cX9_goEvenings 94 = .ok (.goto 5, 3) := by decide +kernel
theorem dX9_goEvenings_97 : decode cX9_goEvenings 97 = .ok (.bipush (-6), 2) := by decide +kernel
theorem dX9_goEvenings_99 : decode cX9_goEvenings 99 = .ok (.putfield 183, 3) := by decide +kernel
theorem dX9_goEvenings_102 : decode cX9_goEvenings 102 = .ok (.iload_n 2, 1) := by decide +kernel
theorem dX9_goEvenings_103 : decode cX9_goEvenings 103 = .ok (.ifCond .ne 8, 3) := by decide +kernel
theorem dX9_goEvenings_106 : decode cX9_goEvenings 106 = .ok (.aload_n 0, 1) := by decide +kernel
theorem dX9_goEvenings_107 : decode cX9_goEvenings 107 = .ok (.iload_n 1, 1) := by decide +kernel
theorem dX9_goEvenings_108 : decode cX9_goEvenings 108 = .ok (.invokevirtual 196, 3) := by decide +kernel
theorem dX9_goEvenings_111 : decode cX9_goEvenings 111 = .ok (.iinc 1 1, 3) := by decide +kernel
theorem dX9_goEvenings_114 : decode cX9_goEvenings 114 = .ok (.goto (-78), 3) := by decide +kernel
theorem dX9_goEvenings_117 : decode cX9_goEvenings 117 = .ok (.return_, 1) := by decide +kernel
theorem dX9_goOne_0 : decode cX9_goOne 0 = .ok (.aload_n 0, 1) := by decide +kernel
theorem dX9_goOne_1 : decode cX9_goOne 1 = .ok (.invokevirtual 199, 3) := by decide +kernel
theorem dX9_goOne_4 : decode cX9_goOne 4 = .ok (.istore_n 2, 1) := by decide +kernel
theorem dX9_goOne_5 : decode cX9_goOne 5 = .ok (.aload_n 0, 1) := by decide +kernel
theorem dX9_goOne_6 : decode cX9_goOne 6 = .ok (.aload_n 0, 1) := by decide +kernel
theorem dX9_goOne_7 : decode cX9_goOne 7 = .ok (.getfield 34, 3) := by decide +kernel
theorem dX9_goOne_10 : decode cX9_goOne 10 = .ok (.iload_n 1, 1) := by decide +kernel
theorem dX9_goOne_11 : decode cX9_goOne 11 = .ok (.iaload, 1) := by decide +kernel
theorem dX9_goOne_12 : decode cX9_goOne 12 = .ok (.aload_n 0, 1) := by decide +kernel
theorem dX9_goOne_13 : decode cX9_goOne 13 = .ok (.getfield 37, 3) := by decide +kernel
theorem dX9_goOne_16 : decode cX9_goOne 16 = .ok (.iload_n 1, 1) := by decide +kernel
theorem dX9_goOne_17 : decode cX9_goOne 17 = .ok (.iaload, 1) := by decide +kernel
theorem dX9_goOne_18 : decode cX9_goOne 18 = .ok (.aload_n 0, 1) := by decide +kernel
theorem dX9_goOne_19 : decode cX9_goOne 19 = .ok (.getfield 40, 3) := by decide +kernel
theorem dX9_goOne_22 : decode cX9_goOne 22 = .ok (.iload_n 1, 1) := by decide +kernel
theorem dX9_goOne_23 : decode cX9_goOne 23 = .ok (.iaload, 1) := by decide +kernel
theorem dX9_goOne_24 : decode cX9_goOne 24 = .ok (.invokevirtual 203, 3) := by decide +kernel
theorem dX9_goOne_27 : decode cX9_goOne 27 = .ok (.iload_n 2, 1) := by decide +kernel
theorem dX9_goOne_28 : decode cX9_goOne 28 = .ok (.aload_n 0, 1) := by decide +kernel
theorem dX9_goOne_29 : decode cX9_goOne 29 = .ok (.invokevirtual 199, 3) := by decide +kernel
theorem dX9_goOne_32 : decode cX9_goOne 32 = .ok (.iconst (-1), 1) := by decide +kernel
theorem dX9_goOne_33 : decode cX9_goOne 33 = .ok (.ixor, 1) := by decide +kernel
theorem dX9_goOne_34 : decode cX9_goOne 34 = .ok (.iand, 1) := by decide +kernel
theorem dX9_goOne_35 : decode cX9_goOne 35 = .ok (.istore_n 3, 1) := by decide +kernel
theorem dX9_goOne_36 : decode cX9_goOne 36 = .ok (.iload_n 3, 1) := by decide +kernel
theorem dX9_goOne_37 : decode cX9_goOne 37 = .ok (.ifCond .eq 23, 3) := by decide +kernel
theorem dX9_goOne_40 : decode cX9_goOne 40 = .ok (.aload_n 0, 1) := by decide +kernel
theorem dX9_goOne_41 : decode cX9_goOne 41 = .ok (.getfield 186, 3) := by decide +kernel
theorem dX9_goOne_44 : decode cX9_goOne 44 = .ok (.ifCond .ge 16, 3) := by decide +kernel
theorem dX9_goOne_47 : decode cX9_goOne 47 = .ok (.aload_n 0, 1) := by decide +kernel
theorem dX9_goOne_48 : decode cX9_goOne 48 = .ok (.iload_n 1, 1) := by decide +kernel
theorem dX9_goOne_49 : decode cX9_goOne 49 = .ok (.putfield 186, 3) := by decide +kernel
theorem dX9_goOne_52 : decode cX9_goOne 52 = .ok (.aload_n 0, 1) := by decide +kernel
theorem dX9_goOne_53 : decode cX9_goOne 53 = .ok (.iload_n 3, 1) := by decide +kernel
theorem dX9_goOne_54 : decode cX9_goOne 54 = .ok (.invokestatic 207, 3) := by decide +kernel
theorem dX9_goOne_57 : decode cX9_goOne 57 = .ok (.putfield 189, 3) := by decide +kernel
theorem dX9_goOne_60 : decode cX9_goOne 60 = .ok (.return_, 1) := by decide +kernel
theorem dX9_refusal_0 : decode cX9_refusal 0 = .ok (.aload_n 0, 1) := by decide +kernel
theorem dX9_refusal_1 : decode cX9_refusal 1 = .ok (.invokevirtual 210, 3) := by decide +kernel
theorem dX9_refusal_4 : decode cX9_refusal 4 = .ok (.aload_n 0, 1) := by decide +kernel
theorem dX9_refusal_5 : decode cX9_refusal 5 = .ok (.invokevirtual 213, 3) := by decide +kernel
theorem dX9_refusal_8 : decode cX9_refusal 8 = .ok (.ifCond .lt 6, 3) := by decide +kernel
theorem dX9_refusal_11 : decode cX9_refusal 11 = .ok (.bipush (-5), 2) := by decide +kernel
theorem dX9_refusal_13 : decode cX9_refusal 13 = .ok (.ireturn, 1) := by decide +kernel
theorem dX9_refusal_14 : decode cX9_refusal 14 = .ok (.aload_n 0, 1) := by decide +kernel
theorem dX9_refusal_15 : decode cX9_refusal 15 = .ok (.invokevirtual 216, 3) := by decide +kernel
theorem dX9_refusal_18 : decode cX9_refusal 18 = .ok (.aload_n 0, 1) := by decide +kernel
theorem dX9_refusal_19 : decode cX9_refusal 19 = .ok (.getfield 180, 3) := by decide +kernel
theorem dX9_refusal_22 : decode cX9_refusal 22 = .ok (.ifCond .lt 8, 3) := by decide +kernel
theorem dX9_refusal_25 : decode cX9_refusal 25 = .ok (.bipush (-3), 2) := by decide +kernel
theorem dX9_refusal_27 : decode cX9_refusal 27 = .ok (.goto 5, 3) := by decide +kernel
theorem dX9_refusal_30 : decode cX9_refusal 30 = .ok (.bipush (-6), 2) := by decide +kernel
theorem dX9_refusal_32 : decode cX9_refusal 32 = .ok (.ireturn, 1) := by decide +kernel
theorem dX9_judge_0 : decode cX9_judge 0 = .ok (.iload_n 1, 1) := by decide +kernel
theorem dX9_judge_1 : decode cX9_judge 1 = .ok (.i2l, 1) := by decide +kernel
theorem dX9_judge_2 : decode cX9_judge 2 = .ok (.lconst 0, 1) := by decide +kernel
theorem dX9_judge_3 : decode cX9_judge 3 = .ok (.ldc2_w 219, 3) := by decide +kernel
theorem dX9_judge_6 : decode cX9_judge 6 = .ok (.invokestatic 77, 3) := by decide +kernel
theorem dX9_judge_9 : decode cX9_judge 9 = .ok (.ifCond .ne 6, 3) := by decide +kernel
theorem dX9_judge_12 : decode cX9_judge 12 = .ok (.bipush (-2), 2) := by decide +kernel
theorem dX9_judge_14 : decode cX9_judge 14 = .ok (.ireturn, 1) := by decide +kernel
theorem dX9_judge_15 : decode cX9_judge 15 = .ok (.aload_n 0, 1) := by decide +kernel
theorem dX9_judge_16 : decode cX9_judge 16 = .ok (.aload_n 0, 1) := by decide +kernel
theorem dX9_judge_17 : decode cX9_judge 17 = .ok (.invokevirtual 221, 3) := by decide +kernel
theorem dX9_judge_20 : decode cX9_judge 20 = .ok (.invokevirtual 224, 3) := by decide +kernel
theorem dX9_judge_23 : decode cX9_judge 23 = .ok (.istore_n 2, 1) := by decide +kernel
theorem dX9_judge_24 : decode cX9_judge 24 = .ok (.iload_n 2, 1) := by decide +kernel
theorem dX9_judge_25 : decode cX9_judge 25 = .ok (.bipush (-5), 2) := by decide +kernel
theorem dX9_judge_27 : decode cX9_judge 27 = .ok (.if_icmp .eq 14, 3) := by decide +kernel
theorem dX9_judge_30 : decode cX9_judge 30 = .ok (.iload_n 1, 1) := by decide +kernel
theorem dX9_judge_31 : decode cX9_judge 31 = .ok (.iconst 1, 1) := by decide +kernel
theorem dX9_judge_32 : decode cX9_judge 32 = .ok (.if_icmp .le 11, 3) := by decide +kernel
theorem dX9_judge_35 : decode cX9_judge 35 = .ok (.iload_n 2, 1) := by decide +kernel
theorem dX9_judge_36 : decode cX9_judge 36 = .ok (.bipush (-3), 2) := by decide +kernel
theorem dX9_judge_38 : decode cX9_judge 38 = .ok (.if_icmp .ne 5, 3) := by decide +kernel
theorem dX9_judge_41 : decode cX9_judge 41 = .ok (.iload_n 2, 1) := by decide +kernel
theorem dX9_judge_42 : decode cX9_judge 42 = .ok (.ireturn, 1) := by decide +kernel
theorem dX9_judge_43 : decode cX9_judge 43 = .ok (.iload_n 1, 1) := by decide +kernel
theorem dX9_judge_44 : decode cX9_judge 44 = .ok (.ifCond .ne 10, 3) := by decide +kernel
theorem dX9_judge_47 : decode cX9_judge 47 = .ok (.aload_n 0, 1) := by decide +kernel
theorem dX9_judge_48 : decode cX9_judge 48 = .ok (.getfield 180, 3) := by decide +kernel
theorem dX9_judge_51 : decode cX9_judge 51 = .ok (.goto 19, 3) := by decide +kernel
theorem dX9_judge_54 : decode cX9_judge 54 = .ok (.iload_n 1, 1) := by decide +kernel
theorem dX9_judge_55 : decode cX9_judge 55 = .ok (.iconst 1, 1) := by decide +kernel
theorem dX9_judge_56 : decode cX9_judge 56 = .ok (.if_icmp .ne 10, 3) := by decide +kernel
theorem dX9_judge_59 : decode cX9_judge 59 = .ok (.aload_n 0, 1) := by decide +kernel
theorem dX9_judge_60 : decode cX9_judge 60 = .ok (.getfield 183, 3) := by decide +kernel
theorem dX9_judge_63 : decode cX9_judge 63 = .ok (.goto 7, 3) := by decide +kernel
theorem dX9_judge_66 : decode cX9_judge 66 = .ok (.aload_n 0, 1) := by decide +kernel
theorem dX9_judge_67 : decode cX9_judge 67 = .ok (.getfield 166, 3) := by decide +kernel
theorem dX9_judge_70 : decode cX9_judge 70 = .ok (.ireturn, 1) := by decide +kernel
theorem dX9_behind_0 : decode cX9_behind 0 = .ok (.aload_n 0, 1) := by decide +kernel
theorem dX9_behind_1 : decode cX9_behind 1 = .ok (.iload_n 1, 1) := by decide +kernel
theorem dX9_behind_2 : decode cX9_behind 2 = .ok (.invokevirtual 99, 3) := by decide +kernel
theorem dX9_behind_5 : decode cX9_behind 5 = .ok (.ifCond .ne 5, 3) := by decide +kernel
theorem dX9_behind_8 : decode cX9_behind 8 = .ok (.iconst (-1), 1) := by decide +kernel
theorem dX9_behind_9 : decode cX9_behind 9 = .ok (.ireturn, 1) := by decide +kernel
theorem dX9_behind_10 : decode cX9_behind 10 = .ok (.iload_n 2, 1) := by decide +kernel
theorem dX9_behind_11 : decode cX9_behind 11 = .ok (.i2l, 1) := by decide +kernel
theorem dX9_behind_12 : decode cX9_behind 12 = .ok (.lconst 0, 1) := by decide +kernel
theorem dX9_behind_13 : decode cX9_behind 13 = .ok (.ldc2_w 219, 3) := by decide +kernel
theorem dX9_behind_16 : decode cX9_behind 16 = .ok (.invokestatic 77, 3) := by decide +kernel
theorem dX9_behind_19 : decode cX9_behind 19 = .ok (.ifCond .ne 6, 3) := by decide +kernel
theorem dX9_behind_22 : decode cX9_behind 22 = .ok (.bipush (-2), 2) := by decide +kernel
theorem dX9_behind_24 : decode cX9_behind 24 = .ok (.ireturn, 1) := by decide +kernel
theorem dX9_behind_25 : decode cX9_behind 25 = .ok (.aload_n 0, 1) := by decide +kernel
theorem dX9_behind_26 : decode cX9_behind 26 = .ok (.invokevirtual 221, 3) := by decide +kernel
theorem dX9_behind_29 : decode cX9_behind 29 = .ok (.istore_n 3, 1) := by decide +kernel
theorem dX9_behind_30 : decode cX9_behind 30 = .ok (.iload_n 2, 1) := by decide +kernel
theorem dX9_behind_31 : decode cX9_behind 31 = .ok (.ifCond .ne 12, 3) := by decide +kernel
theorem dX9_behind_34 : decode cX9_behind 34 = .ok (.aload_n 0, 1) := by decide +kernel
theorem dX9_behind_35 : decode cX9_behind 35 = .ok (.getfield 13, 3) := by decide +kernel
theorem dX9_behind_38 : decode cX9_behind 38 = .ok (.iload_n 1, 1) := by decide +kernel
theorem dX9_behind_39 : decode cX9_behind 39 = .ok (.iaload, 1) := by decide +kernel
theorem dX9_behind_40 : decode cX9_behind 40 = .ok (.goto 23, 3) := by decide +kernel
theorem dX9_behind_43 : decode cX9_behind 43 = .ok (.iload_n 2, 1) := by decide +kernel
theorem dX9_behind_44 : decode cX9_behind 44 = .ok (.iconst 1, 1) := by decide +kernel
theorem dX9_behind_45 : decode cX9_behind 45 = .ok (.if_icmp .ne 10, 3) := by decide +kernel
theorem dX9_behind_48 : decode cX9_behind 48 = .ok (.aload_n 0, 1) := by decide +kernel
theorem dX9_behind_49 : decode cX9_behind 49 = .ok (.getfield 89, 3) := by decide +kernel
theorem dX9_behind_52 : decode cX9_behind 52 = .ok (.goto 7, 3) := by decide +kernel
theorem dX9_behind_55 : decode cX9_behind 55 = .ok (.aload_n 0, 1) := by decide +kernel
theorem dX9_behind_56 : decode cX9_behind 56 = .ok (.getfield 92, 3) := by decide +kernel
theorem dX9_behind_59 : decode cX9_behind 59 = .ok (.iload_n 1, 1) := by decide +kernel
theorem dX9_behind_60 : decode cX9_behind 60 = .ok (.ishr, 1) := by decide +kernel
theorem dX9_behind_61 : decode cX9_behind 61 = .ok (.iconst 1, 1) := by decide +kernel
theorem dX9_behind_62 : decode cX9_behind 62 = .ok (.iand, 1) := by decide +kernel
theorem dX9_behind_63 : decode cX9_behind 63 = .ok (.istore 4, 2) := by decide +kernel
theorem dX9_behind_65 : decode cX9_behind 65 = .ok (.aload_n 0, 1) := by decide +kernel
theorem dX9_behind_66 : decode cX9_behind 66 = .ok (.iload_n 3, 1) := by decide +kernel
theorem dX9_behind_67 : decode cX9_behind 67 = .ok (.bipush (-6), 2) := by decide +kernel
theorem dX9_behind_69 : decode cX9_behind 69 = .ok (.if_icmp .eq 7, 3) := by decide +kernel
theorem dX9_behind_72 : decode cX9_behind 72 = .ok (.iload_n 3, 1) := by decide +kernel
theorem dX9_behind_73 : decode cX9_behind 73 = .ok (.goto 5, 3) := by decide +kernel
theorem dX9_behind_76 : decode cX9_behind 76 = .ok (.iload 4, 2) := by decide +kernel
theorem dX9_behind_78 : decode cX9_behind 78 = .ok (.invokevirtual 224, 3) := by decide +kernel
theorem dX9_behind_81 : decode cX9_behind 81 = .ok (.ireturn, 1) := by decide +kernel
theorem dX9_allDebts_0 : decode cX9_allDebts 0 = .ok (.iconst 0, 1) := by decide +kernel
theorem dX9_allDebts_1 : decode cX9_allDebts 1 = .ok (.istore_n 1, 1) := by decide +kernel
theorem dX9_allDebts_2 : decode cX9_allDebts 2 = .ok (.iconst 0, 1) := by decide +kernel
theorem dX9_allDebts_3 : decode cX9_allDebts 3 = .ok (.istore_n 2, 1) := by decide +kernel
theorem dX9_allDebts_4 : decode cX9_allDebts 4 = .ok (.iload_n 2, 1) := by decide +kernel
theorem dX9_allDebts_5 : decode cX9_allDebts 5 = .ok (.bipush 8, 2) := by decide +kernel
theorem dX9_allDebts_7 : decode cX9_allDebts 7 = .ok (.if_icmp .ge 30, 3) := by decide +kernel
theorem dX9_allDebts_10 : decode cX9_allDebts 10 = .ok (.iload_n 1, 1) := by decide +kernel
theorem dX9_allDebts_11 : decode cX9_allDebts 11 = .ok (.aload_n 0, 1) := by decide +kernel
theorem dX9_allDebts_12 : decode cX9_allDebts 12 = .ok (.iload_n 2, 1) := by decide +kernel
theorem dX9_allDebts_13 : decode cX9_allDebts 13 = .ok (.invokevirtual 99, 3) := by decide +kernel
theorem dX9_allDebts_16 : decode cX9_allDebts 16 = .ok (.ifCond .eq 12, 3) := by decide +kernel
theorem dX9_allDebts_19 : decode cX9_allDebts 19 = .ok (.aload_n 0, 1) := by decide +kernel
theorem dX9_allDebts_20 : decode cX9_allDebts 20 = .ok (.getfield 13, 3) := by decide +kernel
theorem dX9_allDebts_23 : decode cX9_allDebts 23 = .ok (.iload_n 2, 1) := by decide +kernel
theorem dX9_allDebts_24 : decode cX9_allDebts 24 = .ok (.iaload, 1) := by decide +kernel
theorem dX9_allDebts_25 : decode cX9_allDebts 25 = .ok (.goto 4, 3) := by decide +kernel
theorem dX9_allDebts_28 : decode cX9_allDebts 28 = .ok (.iconst 0, 1) := by decide +kernel
theorem dX9_allDebts_29 : decode cX9_allDebts 29 = .ok (.iadd, 1) := by decide +kernel
theorem dX9_allDebts_30 : decode cX9_allDebts 30 = .ok (.istore_n 1, 1) := by decide +kernel
theorem dX9_allDebts_31 : decode cX9_allDebts 31 = .ok (.iinc 2 1, 3) := by decide +kernel
theorem dX9_allDebts_34 : decode cX9_allDebts 34 = .ok (.goto (-30), 3) := by decide +kernel
theorem dX9_allDebts_37 : decode cX9_allDebts 37 = .ok (.iload_n 1, 1) := by decide +kernel
theorem dX9_allDebts_38 : decode cX9_allDebts 38 = .ok (.ireturn, 1) := by decide +kernel
theorem dX9_owed_0 : decode cX9_owed 0 = .ok (.iload_n 1, 1) := by decide +kernel
theorem dX9_owed_1 : decode cX9_owed 1 = .ok (.i2l, 1) := by decide +kernel
theorem dX9_owed_2 : decode cX9_owed 2 = .ok (.lconst 0, 1) := by decide +kernel
theorem dX9_owed_3 : decode cX9_owed 3 = .ok (.lconst 1, 1) := by decide +kernel
theorem dX9_owed_4 : decode cX9_owed 4 = .ok (.invokestatic 77, 3) := by decide +kernel
theorem dX9_owed_7 : decode cX9_owed 7 = .ok (.ifCond .ne 6, 3) := by decide +kernel
theorem dX9_owed_10 : decode cX9_owed 10 = .ok (.bipush (-2), 2) := by decide +kernel
theorem dX9_owed_12 : decode cX9_owed 12 = .ok (.ireturn, 1) := by decide +kernel
theorem dX9_owed_13 : decode cX9_owed 13 = .ok (.aload_n 0, 1) := by decide +kernel
theorem dX9_owed_14 : decode cX9_owed 14 = .ok (.invokevirtual 221, 3) := by decide +kernel
theorem dX9_owed_17 : decode cX9_owed 17 = .ok (.istore_n 2, 1) := by decide +kernel
theorem dX9_owed_18 : decode cX9_owed 18 = .ok (.aload_n 0, 1) := by decide +kernel
theorem dX9_owed_19 : decode cX9_owed 19 = .ok (.iload_n 2, 1) := by decide +kernel
theorem dX9_owed_20 : decode cX9_owed 20 = .ok (.bipush (-6), 2) := by decide +kernel
theorem dX9_owed_22 : decode cX9_owed 22 = .ok (.if_icmp .eq 7, 3) := by decide +kernel
theorem dX9_owed_25 : decode cX9_owed 25 = .ok (.iload_n 2, 1) := by decide +kernel
theorem dX9_owed_26 : decode cX9_owed 26 = .ok (.goto 18, 3) := by decide +kernel
theorem dX9_owed_29 : decode cX9_owed 29 = .ok (.iload_n 1, 1) := by decide +kernel
theorem dX9_owed_30 : decode cX9_owed 30 = .ok (.ifCond .ne 10, 3) := by decide +kernel
theorem dX9_owed_33 : decode cX9_owed 33 = .ok (.aload_n 0, 1) := by decide +kernel
theorem dX9_owed_34 : decode cX9_owed 34 = .ok (.invokevirtual 227, 3) := by decide +kernel
theorem dX9_owed_37 : decode cX9_owed 37 = .ok (.goto 7, 3) := by decide +kernel
theorem dX9_owed_40 : decode cX9_owed 40 = .ok (.aload_n 0, 1) := by decide +kernel
theorem dX9_owed_41 : decode cX9_owed 41 = .ok (.getfield 163, 3) := by decide +kernel
theorem dX9_owed_44 : decode cX9_owed 44 = .ok (.invokevirtual 224, 3) := by decide +kernel
theorem dX9_owed_47 : decode cX9_owed 47 = .ok (.ireturn, 1) := by decide +kernel
theorem dX9_freed_0 : decode cX9_freed 0 = .ok (.iload_n 1, 1) := by decide +kernel
theorem dX9_freed_1 : decode cX9_freed 1 = .ok (.i2l, 1) := by decide +kernel
theorem dX9_freed_2 : decode cX9_freed 2 = .ok (.lconst 0, 1) := by decide +kernel
theorem dX9_freed_3 : decode cX9_freed 3 = .ok (.lconst 1, 1) := by decide +kernel
theorem dX9_freed_4 : decode cX9_freed 4 = .ok (.invokestatic 77, 3) := by decide +kernel
theorem dX9_freed_7 : decode cX9_freed 7 = .ok (.ifCond .ne 6, 3) := by decide +kernel
theorem dX9_freed_10 : decode cX9_freed 10 = .ok (.bipush (-2), 2) := by decide +kernel
theorem dX9_freed_12 : decode cX9_freed 12 = .ok (.ireturn, 1) := by decide +kernel
theorem dX9_freed_13 : decode cX9_freed 13 = .ok (.aload_n 0, 1) := by decide +kernel
theorem dX9_freed_14 : decode cX9_freed 14 = .ok (.aload_n 0, 1) := by decide +kernel
theorem dX9_freed_15 : decode cX9_freed 15 = .ok (.invokevirtual 221, 3) := by decide +kernel
theorem dX9_freed_18 : decode cX9_freed 18 = .ok (.invokevirtual 224, 3) := by decide +kernel
theorem dX9_freed_21 : decode cX9_freed 21 = .ok (.istore_n 2, 1) := by decide +kernel
theorem dX9_freed_22 : decode cX9_freed 22 = .ok (.iload_n 2, 1) := by decide +kernel
theorem dX9_freed_23 : decode cX9_freed 23 = .ok (.bipush (-6), 2) := by decide +kernel
theorem dX9_freed_25 : decode cX9_freed 25 = .ok (.if_icmp .eq 7, 3) := by decide +kernel
theorem dX9_freed_28 : decode cX9_freed 28 = .ok (.iload_n 2, 1) := by decide +kernel
theorem dX9_freed_29 : decode cX9_freed 29 = .ok (.goto 18, 3) := by decide +kernel
theorem dX9_freed_32 : decode cX9_freed 32 = .ok (.iload_n 1, 1) := by decide +kernel
theorem dX9_freed_33 : decode cX9_freed 33 = .ok (.ifCond .ne 10, 3) := by decide +kernel
theorem dX9_freed_36 : decode cX9_freed 36 = .ok (.aload_n 0, 1) := by decide +kernel
theorem dX9_freed_37 : decode cX9_freed 37 = .ok (.getfield 186, 3) := by decide +kernel
theorem dX9_freed_40 : decode cX9_freed 40 = .ok (.goto 7, 3) := by decide +kernel
theorem dX9_freed_43 : decode cX9_freed 43 = .ok (.aload_n 0, 1) := by decide +kernel
theorem dX9_freed_44 : decode cX9_freed 44 = .ok (.getfield 189, 3) := by decide +kernel
theorem dX9_freed_47 : decode cX9_freed 47 = .ok (.ireturn, 1) := by decide +kernel
theorem dX9_done_0 : decode cX9_done 0 = .ok (.aload_n 0, 1) := by decide +kernel
theorem dX9_done_1 : decode cX9_done 1 = .ok (.invokevirtual 221, 3) := by decide +kernel
theorem dX9_done_4 : decode cX9_done 4 = .ok (.istore_n 1, 1) := by decide +kernel
theorem dX9_done_5 : decode cX9_done 5 = .ok (.iload_n 1, 1) := by decide +kernel
theorem dX9_done_6 : decode cX9_done 6 = .ok (.bipush (-6), 2) := by decide +kernel
theorem dX9_done_8 : decode cX9_done 8 = .ok (.if_icmp .eq 9, 3) := by decide +kernel
theorem dX9_done_11 : decode cX9_done 11 = .ok (.aload_n 0, 1) := by decide +kernel
theorem dX9_done_12 : decode cX9_done 12 = .ok (.iload_n 1, 1) := by decide +kernel
theorem dX9_done_13 : decode cX9_done 13 = .ok (.invokevirtual 224, 3) := by decide +kernel
theorem dX9_done_16 : decode cX9_done 16 = .ok (.ireturn, 1) := by decide +kernel
theorem dX9_done_17 : decode cX9_done 17 = .ok (.aload_n 0, 1) := by decide +kernel
theorem dX9_done_18 : decode cX9_done 18 = .ok (.iconst 0, 1) := by decide +kernel
theorem dX9_done_19 : decode cX9_done 19 = .ok (.putfield 118, 3) := by decide +kernel
theorem dX9_done_22 : decode cX9_done 22 = .ok (.aload_n 0, 1) := by decide +kernel
theorem dX9_done_23 : decode cX9_done 23 = .ok (.getfield 121, 3) := by decide +kernel
theorem dX9_done_26 : decode cX9_done 26 = .ok (.ireturn, 1) := by decide +kernel
theorem dX9_may_0 : decode cX9_may 0 = .ok (.iconst 0, 1) := by decide +kernel
theorem dX9_may_1 : decode cX9_may 1 = .ok (.istore_n 1, 1) := by decide +kernel
theorem dX9_may_2 : decode cX9_may 2 = .ok (.iconst 0, 1) := by decide +kernel
theorem dX9_may_3 : decode cX9_may 3 = .ok (.istore_n 2, 1) := by decide +kernel
theorem dX9_may_4 : decode cX9_may 4 = .ok (.iload_n 2, 1) := by decide +kernel
theorem dX9_may_5 : decode cX9_may 5 = .ok (.bipush 6, 2) := by decide +kernel
theorem dX9_may_7 : decode cX9_may 7 = .ok (.if_icmp .ge 27, 3) := by decide +kernel
theorem dX9_may_10 : decode cX9_may 10 = .ok (.iload_n 1, 1) := by decide +kernel
theorem dX9_may_11 : decode cX9_may 11 = .ok (.aload_n 0, 1) := by decide +kernel
theorem dX9_may_12 : decode cX9_may 12 = .ok (.iload_n 2, 1) := by decide +kernel
theorem dX9_may_13 : decode cX9_may 13 = .ok (.invokevirtual 157, 3) := by decide +kernel
theorem dX9_may_16 : decode cX9_may 16 = .ok (.ifCond .eq 9, 3) := by decide +kernel
theorem dX9_may_19 : decode cX9_may 19 = .ok (.iconst 1, 1) := by decide +kernel
theorem dX9_may_20 : decode cX9_may 20 = .ok (.iload_n 2, 1) := by decide +kernel
theorem dX9_may_21 : decode cX9_may 21 = .ok (.ishl, 1) := by decide +kernel
theorem dX9_may_22 : decode cX9_may 22 = .ok (.goto 4, 3) := by decide +kernel
theorem dX9_may_25 : decode cX9_may 25 = .ok (.iconst 0, 1) := by decide +kernel
theorem dX9_may_26 : decode cX9_may 26 = .ok (.ior, 1) := by decide +kernel
theorem dX9_may_27 : decode cX9_may 27 = .ok (.istore_n 1, 1) := by decide +kernel
theorem dX9_may_28 : decode cX9_may 28 = .ok (.iinc 2 1, 3) := by decide +kernel
theorem dX9_may_31 : decode cX9_may 31 = .ok (.goto (-27), 3) := by decide +kernel
theorem dX9_may_34 : decode cX9_may 34 = .ok (.iload_n 1, 1) := by decide +kernel
theorem dX9_may_35 : decode cX9_may 35 = .ok (.ireturn, 1) := by decide +kernel
theorem dX9_behindNight_0 : decode cX9_behindNight 0 = .ok (.iload_n 0, 1) := by decide +kernel
theorem dX9_behindNight_1 : decode cX9_behindNight 1 = .ok (.iload_n 1, 1) := by decide +kernel
theorem dX9_behindNight_2 : decode cX9_behindNight 2 = .ok (.if_icmp .le 9, 3) := by decide +kernel
theorem dX9_behindNight_5 : decode cX9_behindNight 5 = .ok (.iload_n 0, 1) := by decide +kernel
theorem dX9_behindNight_6 : decode cX9_behindNight 6 = .ok (.iload_n 1, 1) := by decide +kernel
theorem dX9_behindNight_7 : decode cX9_behindNight 7 = .ok (.isub, 1) := by decide +kernel
theorem dX9_behindNight_8 : decode cX9_behindNight 8 = .ok (.goto 4, 3) := by decide +kernel
theorem dX9_behindNight_11 : decode cX9_behindNight 11 = .ok (.iconst 0, 1) := by decide +kernel
theorem dX9_behindNight_12 : decode cX9_behindNight 12 = .ok (.istore_n 2, 1) := by decide +kernel
theorem dX9_behindNight_13 : decode cX9_behindNight 13 = .ok (.iload_n 2, 1) := by decide +kernel
theorem dX9_behindNight_14 : decode cX9_behindNight 14 = .ok (.iload_n 2, 1) := by decide +kernel
theorem dX9_behindNight_15 : decode cX9_behindNight 15 = .ok (.bipush 10, 2) := by decide +kernel
theorem dX9_behindNight_17 : decode cX9_behindNight 17 = .ok (.idiv, 1) := by decide +kernel
theorem dX9_behindNight_18 : decode cX9_behindNight 18 = .ok (.iadd, 1) := by decide +kernel
theorem dX9_behindNight_19 : decode cX9_behindNight 19 = .ok (.ireturn, 1) := by decide +kernel
theorem dX9_isFor_0 : decode cX9_isFor 0 = .ok (.aload_n 0, 1) := by decide +kernel
theorem dX9_isFor_1 : decode cX9_isFor 1 = .ok (.getfield 16, 3) := by decide +kernel
theorem dX9_isFor_4 : decode cX9_isFor 4 = .ok (.iconst 4, 1) := by decide +kernel
theorem dX9_isFor_5 : decode cX9_isFor 5 = .ok (.iload_n 1, 1) := by decide +kernel
theorem dX9_isFor_6 : decode cX9_isFor 6 = .ok (.imul, 1) := by decide +kernel
theorem dX9_isFor_7 : decode cX9_isFor 7 = .ok (.aload_n 0, 1) := by decide +kernel
theorem dX9_isFor_8 : decode cX9_isFor 8 = .ok (.getfield 7, 3) := by decide +kernel
theorem dX9_isFor_11 : decode cX9_isFor 11 = .ok (.iload_n 2, 1) := by decide +kernel
theorem dX9_isFor_12 : decode cX9_isFor 12 = .ok (.iaload, 1) := by decide +kernel
theorem dX9_isFor_13 : decode cX9_isFor 13 = .ok (.iadd, 1) := by decide +kernel
theorem dX9_isFor_14 : decode cX9_isFor 14 = .ok (.iaload, 1) := by decide +kernel
theorem dX9_isFor_15 : decode cX9_isFor 15 = .ok (.ifCond .le 7, 3) := by decide +kernel
theorem dX9_isFor_18 : decode cX9_isFor 18 = .ok (.iconst 1, 1) := by decide +kernel
theorem dX9_isFor_19 : decode cX9_isFor 19 = .ok (.goto 4, 3) := by decide +kernel
theorem dX9_isFor_22 : decode cX9_isFor 22 = .ok (.iconst 0, 1) := by decide +kernel
theorem dX9_isFor_23 : decode cX9_isFor 23 = .ok (.ireturn, 1) := by decide +kernel
theorem dX9_bestOwed_0 : decode cX9_bestOwed 0 = .ok (.sipush 9990, 3) := by decide +kernel
theorem dX9_bestOwed_3 : decode cX9_bestOwed 3 = .ok (.istore_n 3, 1) := by decide +kernel
theorem dX9_bestOwed_4 : decode cX9_bestOwed 4 = .ok (.iconst 0, 1) := by decide +kernel
theorem dX9_bestOwed_5 : decode cX9_bestOwed 5 = .ok (.istore 4, 2) := by decide +kernel
theorem dX9_bestOwed_7 : decode cX9_bestOwed 7 = .ok (.iload 4, 2) := by decide +kernel
theorem dX9_bestOwed_9 : decode cX9_bestOwed 9 = .ok (.bipush 6, 2) := by decide +kernel
theorem dX9_bestOwed_11 : decode cX9_bestOwed 11 = .ok (.if_icmp .ge 105, 3) := by decide +kernel
theorem dX9_bestOwed_14 : decode cX9_bestOwed 14 = .ok (.aload_n 0, 1) := by decide +kernel
theorem dX9_bestOwed_15 : decode cX9_bestOwed 15 = .ok (.getfield 46, 3) := by decide +kernel
theorem dX9_bestOwed_18 : decode cX9_bestOwed 18 = .ok (.iload_n 2, 1) := by decide +kernel
theorem dX9_bestOwed_19 : decode cX9_bestOwed 19 = .ok (.iconst 1, 1) := by decide +kernel
theorem dX9_bestOwed_20 : decode cX9_bestOwed 20 = .ok (.iload 4, 2) := by decide +kernel
theorem dX9_bestOwed_22 : decode cX9_bestOwed 22 = .ok (.ishl, 1) := by decide +kernel
theorem dX9_bestOwed_23 : decode cX9_bestOwed 23 = .ok (.iconst (-1), 1) := by decide +kernel
theorem dX9_bestOwed_24 : decode cX9_bestOwed 24 = .ok (.ixor, 1) := by decide +kernel
theorem dX9_bestOwed_25 : decode cX9_bestOwed 25 = .ok (.iand, 1) := by decide +kernel
theorem dX9_bestOwed_26 : decode cX9_bestOwed 26 = .ok (.iaload, 1) := by decide +kernel
theorem dX9_bestOwed_27 : decode cX9_bestOwed 27 = .ok (.istore 5, 2) := by decide +kernel
theorem dX9_bestOwed_29 : decode cX9_bestOwed 29 = .ok (.iload_n 2, 1) := by decide +kernel
theorem dX9_bestOwed_30 : decode cX9_bestOwed 30 = .ok (.iload 4, 2) := by decide +kernel
theorem dX9_bestOwed_32 : decode cX9_bestOwed 32 = .ok (.ishr, 1) := by decide +kernel
theorem dX9_bestOwed_33 : decode cX9_bestOwed 33 = .ok (.iconst 1, 1) := by decide +kernel
theorem dX9_bestOwed_34 : decode cX9_bestOwed 34 = .ok (.iand, 1) := by decide +kernel
theorem dX9_bestOwed_35 : decode cX9_bestOwed 35 = .ok (.iconst 1, 1) := by decide +kernel
theorem dX9_bestOwed_36 : decode cX9_bestOwed 36 = .ok (.if_icmp .ne 25, 3) := by decide +kernel
theorem dX9_bestOwed_39 : decode cX9_bestOwed 39 = .ok (.aload_n 0, 1) := by decide +kernel
theorem dX9_bestOwed_40 : decode cX9_bestOwed 40 = .ok (.iload 4, 2) := by decide +kernel
theorem dX9_bestOwed_42 : decode cX9_bestOwed 42 = .ok (.iload_n 1, 1) := by decide +kernel
theorem dX9_bestOwed_43 : decode cX9_bestOwed 43 = .ok (.invokevirtual 230, 3) := by decide +kernel
theorem dX9_bestOwed_46 : decode cX9_bestOwed 46 = .ok (.ifCond .eq 15, 3) := by decide +kernel
theorem dX9_bestOwed_49 : decode cX9_bestOwed 49 = .ok (.iload 5, 2) := by decide +kernel
theorem dX9_bestOwed_51 : decode cX9_bestOwed 51 = .ok (.sipush 9990, 3) := by decide +kernel
theorem dX9_bestOwed_54 : decode cX9_bestOwed 54 = .ok (.if_icmp .ge 7, 3) := by decide +kernel
theorem dX9_bestOwed_57 : decode cX9_bestOwed 57 = .ok (.iconst 1, 1) := by decide +kernel
theorem dX9_bestOwed_58 : decode cX9_bestOwed 58 = .ok (.goto 4, 3) := by decide +kernel
theorem dX9_bestOwed_61 : decode cX9_bestOwed 61 = .ok (.iconst 0, 1) := by decide +kernel
theorem dX9_bestOwed_62 : decode cX9_bestOwed 62 = .ok (.istore 6, 2) := by decide +kernel
theorem dX9_bestOwed_64 : decode cX9_bestOwed 64 = .ok (.iload 6, 2) := by decide +kernel
theorem dX9_bestOwed_66 : decode cX9_bestOwed 66 = .ok (.ifCond .eq 26, 3) := by decide +kernel
theorem dX9_bestOwed_69 : decode cX9_bestOwed 69 = .ok (.iload 5, 2) := by decide +kernel
theorem dX9_bestOwed_71 : decode cX9_bestOwed 71 = .ok (.aload_n 0, 1) := by decide +kernel
theorem dX9_bestOwed_72 : decode cX9_bestOwed 72 = .ok (.getfield 19, 3) := by decide +kernel
theorem dX9_bestOwed_75 : decode cX9_bestOwed 75 = .ok (.iload 4, 2) := by decide +kernel
theorem dX9_bestOwed_77 : decode cX9_bestOwed 77 = .ok (.iaload, 1) := by decide +kernel
theorem dX9_bestOwed_78 : decode cX9_bestOwed 78 = .ok (.aload_n 0, 1) := by decide +kernel
theorem dX9_bestOwed_79 : decode cX9_bestOwed 79 = .ok (.getfield 22, 3) := by decide +kernel
theorem dX9_bestOwed_82 : decode cX9_bestOwed 82 = .ok (.iload 4, 2) := by decide +kernel
theorem dX9_bestOwed_84 : decode cX9_bestOwed 84 = .ok (.iaload, 1) := by decide +kernel
theorem dX9_bestOwed_85 : decode cX9_bestOwed 85 = .ok (.imul, 1) := by decide +kernel
theorem dX9_bestOwed_86 : decode cX9_bestOwed 86 = .ok (.invokestatic 233, 3) := by decide +kernel
theorem dX9_bestOwed_89 : decode cX9_bestOwed 89 = .ok (.goto 6, 3) := by decide +kernel
theorem dX9_bestOwed_92 : decode cX9_bestOwed 92 = .ok (.sipush 9990, 3) := by decide +kernel
theorem dX9_bestOwed_95 : decode cX9_bestOwed 95 = .ok (.istore 7, 2) := by decide +kernel
theorem dX9_bestOwed_97 : decode cX9_bestOwed 97 = .ok (.iload 7, 2) := by decide +kernel
theorem dX9_bestOwed_99 : decode cX9_bestOwed 99 = .ok (.iload_n 3, 1) := by decide +kernel
theorem dX9_bestOwed_100 : decode cX9_bestOwed 100 = .ok (.if_icmp .ge 8, 3) := by decide +kernel
theorem dX9_bestOwed_103 : decode cX9_bestOwed 103 = .ok (.iload 7, 2) := by decide +kernel
theorem dX9_bestOwed_105 : decode cX9_bestOwed 105 = .ok (.goto 4, 3) := by decide +kernel
theorem dX9_bestOwed_108 : decode cX9_bestOwed 108 = .ok (.iload_n 3, 1) := by decide +kernel
theorem dX9_bestOwed_109 : decode cX9_bestOwed 109 = .ok (.istore_n 3, 1) := by decide +kernel
theorem dX9_bestOwed_110 : decode cX9_bestOwed 110 = .ok (.iinc 4 1, 3) := by decide +kernel
theorem dX9_bestOwed_113 : decode cX9_bestOwed 113 = .ok (.goto (-106), 3) := by decide +kernel
theorem dX9_bestOwed_116 : decode cX9_bestOwed 116 = .ok (.iload_n 3, 1) := by decide +kernel
theorem dX9_bestOwed_117 : decode cX9_bestOwed 117 = .ok (.ireturn, 1) := by decide +kernel
theorem dX9_fewestNights_0 : decode cX9_fewestNights 0 = .ok (.bipush (-6), 2) := by decide +kernel
theorem dX9_fewestNights_2 : decode cX9_fewestNights 2 = .ok (.istore 4, 2) := by decide +kernel
theorem dX9_fewestNights_4 : decode cX9_fewestNights 4 = .ok (.iconst 0, 1) := by decide +kernel
theorem dX9_fewestNights_5 : decode cX9_fewestNights 5 = .ok (.istore 5, 2) := by decide +kernel
theorem dX9_fewestNights_7 : decode cX9_fewestNights 7 = .ok (.iload 5, 2) := by decide +kernel
theorem dX9_fewestNights_9 : decode cX9_fewestNights 9 = .ok (.bipush 64, 2) := by decide +kernel
theorem dX9_fewestNights_11 : decode cX9_fewestNights 11 = .ok (.if_icmp .ge 123, 3) := by decide +kernel
theorem dX9_fewestNights_14 : decode cX9_fewestNights 14 = .ok (.iload 5, 2) := by decide +kernel
theorem dX9_fewestNights_16 : decode cX9_fewestNights 16 = .ok (.iload_n 2, 1) := by decide +kernel
theorem dX9_fewestNights_17 : decode cX9_fewestNights 17 = .ok (.iand, 1) := by decide +kernel
theorem dX9_fewestNights_18 : decode cX9_fewestNights 18 = .ok (.iload_n 2, 1) := by decide +kernel
theorem dX9_fewestNights_19 : decode cX9_fewestNights 19 = .ok (.if_icmp .ne 7, 3) := by decide +kernel
theorem dX9_fewestNights_22 : decode cX9_fewestNights 22 = .ok (.iconst 1, 1) := by decide +kernel
theorem dX9_fewestNights_23 : decode cX9_fewestNights 23 = .ok (.goto 4, 3) := by decide +kernel
theorem dX9_fewestNights_26 : decode cX9_fewestNights 26 = .ok (.iconst 0, 1) := by decide +kernel
theorem dX9_fewestNights_27 : decode cX9_fewestNights 27 = .ok (.istore 6, 2) := by decide +kernel
theorem dX9_fewestNights_29 : decode cX9_fewestNights 29 = .ok (.aload_n 0, 1) := by decide +kernel
theorem dX9_fewestNights_30 : decode cX9_fewestNights 30 = .ok (.getfield 46, 3) := by decide +kernel
theorem dX9_fewestNights_33 : decode cX9_fewestNights 33 = .ok (.iload 5, 2) := by decide +kernel
theorem dX9_fewestNights_35 : decode cX9_fewestNights 35 = .ok (.iload 5, 2) := by decide +kernel
theorem dX9_fewestNights_37 : decode cX9_fewestNights 37 = .ok (.iload_n 2, 1) := by decide +kernel
theorem dX9_fewestNights_38 : decode cX9_fewestNights 38 = .ok (.if_icmp .ne 7, 3) := by decide +kernel
theorem dX9_fewestNights_41 : decode cX9_fewestNights 41 = .ok (.iload_n 3, 1) := by decide +kernel
theorem dX9_fewestNights_42 : decode cX9_fewestNights 42 = .ok (.goto 6, 3) := by decide +kernel
theorem dX9_fewestNights_45 : decode cX9_fewestNights 45 = .ok (.sipush 9990, 3) := by decide +kernel
theorem dX9_fewestNights_48 : decode cX9_fewestNights 48 = .ok (.iastore, 1) := by decide +kernel
theorem dX9_fewestNights_49 : decode cX9_fewestNights 49 = .ok (.iload 6, 2) := by decide +kernel
theorem dX9_fewestNights_51 : decode cX9_fewestNights 51 = .ok (.ifCond .eq 23, 3) := by decide +kernel
theorem dX9_fewestNights_54 : decode cX9_fewestNights 54 = .ok (.iload 5, 2) := by decide +kernel
theorem dX9_fewestNights_56 : decode cX9_fewestNights 56 = .ok (.iload_n 2, 1) := by decide +kernel
theorem dX9_fewestNights_57 : decode cX9_fewestNights 57 = .ok (.if_icmp .eq 17, 3) := by decide +kernel
theorem dX9_fewestNights_60 : decode cX9_fewestNights 60 = .ok (.aload_n 0, 1) := by decide +kernel
theorem dX9_fewestNights_61 : decode cX9_fewestNights 61 = .ok (.getfield 46, 3) := by decide +kernel
theorem dX9_fewestNights_64 : decode cX9_fewestNights 64 = .ok (.iload 5, 2) := by decide +kernel
theorem dX9_fewestNights_66 : decode cX9_fewestNights 66 = .ok (.aload_n 0, 1) := by decide +kernel
theorem dX9_fewestNights_67 : decode cX9_fewestNights 67 = .ok (.iload_n 1, 1) := by decide +kernel
theorem dX9_fewestNights_68 : decode cX9_fewestNights 68 = .ok (.iload 5, 2) := by decide +kernel
theorem dX9_fewestNights_70 : decode cX9_fewestNights 70 = .ok (.invokevirtual 236, 3) := by decide +kernel
theorem dX9_fewestNights_73 : decode cX9_fewestNights 73 = .ok (.iastore, 1) := by decide +kernel
theorem dX9_fewestNights_74 : decode cX9_fewestNights 74 = .ok (.iload 6, 2) := by decide +kernel
theorem dX9_fewestNights_76 : decode cX9_fewestNights 76 = .ok (.ifCond .eq 17, 3) := by decide +kernel
theorem dX9_fewestNights_79 : decode cX9_fewestNights 79 = .ok (.aload_n 0, 1) := by decide +kernel
theorem dX9_fewestNights_80 : decode cX9_fewestNights 80 = .ok (.getfield 46, 3) := by decide +kernel
theorem dX9_fewestNights_83 : decode cX9_fewestNights 83 = .ok (.iload 5, 2) := by decide +kernel
theorem dX9_fewestNights_85 : decode cX9_fewestNights 85 = .ok (.iaload, 1) := by decide +kernel
theorem dX9_fewestNights_86 : decode cX9_fewestNights 86 = .ok (.ifCond .ne 7, 3) := by decide +kernel
theorem dX9_fewestNights_89 : decode cX9_fewestNights 89 = .ok (.iconst 1, 1) := by decide +kernel
theorem dX9_fewestNights_90 : decode cX9_fewestNights 90 = .ok (.goto 4, 3) := by decide +kernel
theorem dX9_fewestNights_93 : decode cX9_fewestNights 93 = .ok (.iconst 0, 1) := by decide +kernel
theorem dX9_fewestNights_94 : decode cX9_fewestNights 94 = .ok (.istore 7, 2) := by decide +kernel
theorem dX9_fewestNights_96 : decode cX9_fewestNights 96 = .ok (.iload 7, 2) := by decide +kernel
theorem dX9_fewestNights_98 : decode cX9_fewestNights 98 = .ok (.ifCond .eq 26, 3) := by decide +kernel
theorem dX9_fewestNights_101 : decode cX9_fewestNights 101 = .ok (.iload 4, 2) := by decide +kernel
theorem dX9_fewestNights_103 : decode cX9_fewestNights 103 = .ok (.ifCond .lt 13, 3) := by decide +kernel
theorem dX9_fewestNights_106 : decode cX9_fewestNights 106 = .ok (.iload 5, 2) := by decide +kernel
theorem dX9_fewestNights_108 : decode cX9_fewestNights 108 = .ok (.invokestatic 95, 3) := by decide +kernel
theorem dX9_fewestNights_111 : decode cX9_fewestNights 111 = .ok (.iload 4, 2) := by decide +kernel
theorem dX9_fewestNights_113 : decode cX9_fewestNights 113 = .ok (.if_icmp .ge 11, 3) := by decide +kernel
theorem dX9_fewestNights_116 : decode cX9_fewestNights 116 = .ok (.iload 5, 2) := by decide +kernel
theorem dX9_fewestNights_118 : decode cX9_fewestNights 118 = .ok (.invokestatic 95, 3) := by decide +kernel
theorem dX9_fewestNights_121 : decode cX9_fewestNights 121 = .ok (.goto 5, 3) := by decide +kernel
theorem dX9_fewestNights_124 : decode cX9_fewestNights 124 = .ok (.iload 4, 2) := by decide +kernel
theorem dX9_fewestNights_126 : decode cX9_fewestNights 126 = .ok (.istore 4, 2) := by decide +kernel
theorem dX9_fewestNights_128 : decode cX9_fewestNights 128 = .ok (.iinc 5 1, 3) := by decide +kernel
theorem dX9_fewestNights_131 : decode cX9_fewestNights 131 = .ok (.goto (-124), 3) := by decide +kernel
theorem dX9_fewestNights_134 : decode cX9_fewestNights 134 = .ok (.iload 4, 2) := by decide +kernel
theorem dX9_fewestNights_136 : decode cX9_fewestNights 136 = .ok (.ireturn, 1) := by decide +kernel
theorem dX9_firstNight_0 : decode cX9_firstNight 0 = .ok (.iconst 0, 1) := by decide +kernel
theorem dX9_firstNight_1 : decode cX9_firstNight 1 = .ok (.istore_n 3, 1) := by decide +kernel
theorem dX9_firstNight_2 : decode cX9_firstNight 2 = .ok (.iload_n 3, 1) := by decide +kernel
theorem dX9_firstNight_3 : decode cX9_firstNight 3 = .ok (.bipush 6, 2) := by decide +kernel
theorem dX9_firstNight_5 : decode cX9_firstNight 5 = .ok (.if_icmp .ge 58, 3) := by decide +kernel
theorem dX9_firstNight_8 : decode cX9_firstNight 8 = .ok (.aload_n 0, 1) := by decide +kernel
theorem dX9_firstNight_9 : decode cX9_firstNight 9 = .ok (.getfield 13, 3) := by decide +kernel
theorem dX9_firstNight_12 : decode cX9_firstNight 12 = .ok (.iload_n 1, 1) := by decide +kernel
theorem dX9_firstNight_13 : decode cX9_firstNight 13 = .ok (.iaload, 1) := by decide +kernel
theorem dX9_firstNight_14 : decode cX9_firstNight 14 = .ok (.aload_n 0, 1) := by decide +kernel
theorem dX9_firstNight_15 : decode cX9_firstNight 15 = .ok (.getfield 19, 3) := by decide +kernel
theorem dX9_firstNight_18 : decode cX9_firstNight 18 = .ok (.iload_n 3, 1) := by decide +kernel
theorem dX9_firstNight_19 : decode cX9_firstNight 19 = .ok (.iaload, 1) := by decide +kernel
theorem dX9_firstNight_20 : decode cX9_firstNight 20 = .ok (.aload_n 0, 1) := by decide +kernel
theorem dX9_firstNight_21 : decode cX9_firstNight 21 = .ok (.getfield 22, 3) := by decide +kernel
theorem dX9_firstNight_24 : decode cX9_firstNight 24 = .ok (.iload_n 3, 1) := by decide +kernel
theorem dX9_firstNight_25 : decode cX9_firstNight 25 = .ok (.iaload, 1) := by decide +kernel
theorem dX9_firstNight_26 : decode cX9_firstNight 26 = .ok (.imul, 1) := by decide +kernel
theorem dX9_firstNight_27 : decode cX9_firstNight 27 = .ok (.invokestatic 233, 3) := by decide +kernel
theorem dX9_firstNight_30 : decode cX9_firstNight 30 = .ok (.istore 4, 2) := by decide +kernel
theorem dX9_firstNight_32 : decode cX9_firstNight 32 = .ok (.aload_n 0, 1) := by decide +kernel
theorem dX9_firstNight_33 : decode cX9_firstNight 33 = .ok (.iload_n 3, 1) := by decide +kernel
theorem dX9_firstNight_34 : decode cX9_firstNight 34 = .ok (.iload_n 1, 1) := by decide +kernel
theorem dX9_firstNight_35 : decode cX9_firstNight 35 = .ok (.invokevirtual 230, 3) := by decide +kernel
theorem dX9_firstNight_38 : decode cX9_firstNight 38 = .ok (.ifCond .eq 19, 3) := by decide +kernel
theorem dX9_firstNight_41 : decode cX9_firstNight 41 = .ok (.aload_n 0, 1) := by decide +kernel
theorem dX9_firstNight_42 : decode cX9_firstNight 42 = .ok (.iload_n 1, 1) := by decide +kernel
theorem dX9_firstNight_43 : decode cX9_firstNight 43 = .ok (.iconst 1, 1) := by decide +kernel
theorem dX9_firstNight_44 : decode cX9_firstNight 44 = .ok (.iload_n 3, 1) := by decide +kernel
theorem dX9_firstNight_45 : decode cX9_firstNight 45 = .ok (.ishl, 1) := by decide +kernel
theorem dX9_firstNight_46 : decode cX9_firstNight 46 = .ok (.iload 4, 2) := by decide +kernel
theorem dX9_firstNight_48 : decode cX9_firstNight 48 = .ok (.invokevirtual 239, 3) := by decide +kernel
theorem dX9_firstNight_51 : decode cX9_firstNight 51 = .ok (.iload_n 2, 1) := by decide +kernel
theorem dX9_firstNight_52 : decode cX9_firstNight 52 = .ok (.if_icmp .ne 5, 3) := by decide +kernel
theorem dX9_firstNight_55 : decode cX9_firstNight 55 = .ok (.iload_n 3, 1) := by decide +kernel
theorem dX9_firstNight_56 : decode cX9_firstNight 56 = .ok (.ireturn, 1) := by decide +kernel
theorem dX9_firstNight_57 : decode cX9_firstNight 57 = .ok (.iinc 3 1, 3) := by decide +kernel
theorem dX9_firstNight_60 : decode cX9_firstNight 60 = .ok (.goto (-58), 3) := by decide +kernel
theorem dX9_firstNight_63 : decode cX9_firstNight 63 = .ok (.bipush (-6), 2) := by decide +kernel
theorem dX9_firstNight_65 : decode cX9_firstNight 65 = .ok (.ireturn, 1) := by decide +kernel
theorem dX9_nights_0 : decode cX9_nights 0 = .ok (.aload_n 0, 1) := by decide +kernel
theorem dX9_nights_1 : decode cX9_nights 1 = .ok (.iload_n 1, 1) := by decide +kernel
theorem dX9_nights_2 : decode cX9_nights 2 = .ok (.invokevirtual 99, 3) := by decide +kernel
theorem dX9_nights_5 : decode cX9_nights 5 = .ok (.ifCond .ne 5, 3) := by decide +kernel
theorem dX9_nights_8 : decode cX9_nights 8 = .ok (.iconst (-1), 1) := by decide +kernel
theorem dX9_nights_9 : decode cX9_nights 9 = .ok (.ireturn, 1) := by decide +kernel
theorem dX9_nights_10 : decode cX9_nights 10 = .ok (.iload_n 2, 1) := by decide +kernel
theorem dX9_nights_11 : decode cX9_nights 11 = .ok (.i2l, 1) := by decide +kernel
theorem dX9_nights_12 : decode cX9_nights 12 = .ok (.lconst 0, 1) := by decide +kernel
theorem dX9_nights_13 : decode cX9_nights 13 = .ok (.lconst 1, 1) := by decide +kernel
theorem dX9_nights_14 : decode cX9_nights 14 = .ok (.invokestatic 77, 3) := by decide +kernel
theorem dX9_nights_17 : decode cX9_nights 17 = .ok (.ifCond .ne 6, 3) := by decide +kernel
theorem dX9_nights_20 : decode cX9_nights 20 = .ok (.bipush (-2), 2) := by decide +kernel
theorem dX9_nights_22 : decode cX9_nights 22 = .ok (.ireturn, 1) := by decide +kernel
theorem dX9_nights_23 : decode cX9_nights 23 = .ok (.aload_n 0, 1) := by decide +kernel
theorem dX9_nights_24 : decode cX9_nights 24 = .ok (.iload_n 1, 1) := by decide +kernel
theorem dX9_nights_25 : decode cX9_nights 25 = .ok (.iconst 0, 1) := by decide +kernel
theorem dX9_nights_26 : decode cX9_nights 26 = .ok (.aload_n 0, 1) := by decide +kernel
theorem dX9_nights_27 : decode cX9_nights 27 = .ok (.getfield 13, 3) := by decide +kernel
theorem dX9_nights_30 : decode cX9_nights 30 = .ok (.iload_n 1, 1) := by decide +kernel
theorem dX9_nights_31 : decode cX9_nights 31 = .ok (.iaload, 1) := by decide +kernel
theorem dX9_nights_32 : decode cX9_nights 32 = .ok (.invokevirtual 239, 3) := by decide +kernel
theorem dX9_nights_35 : decode cX9_nights 35 = .ok (.istore_n 3, 1) := by decide +kernel
theorem dX9_nights_36 : decode cX9_nights 36 = .ok (.iload_n 2, 1) := by decide +kernel
theorem dX9_nights_37 : decode cX9_nights 37 = .ok (.ifCond .eq 7, 3) := by decide +kernel
theorem dX9_nights_40 : decode cX9_nights 40 = .ok (.iload_n 3, 1) := by decide +kernel
theorem dX9_nights_41 : decode cX9_nights 41 = .ok (.ifCond .gt 16, 3) := by decide +kernel
theorem dX9_nights_44 : decode cX9_nights 44 = .ok (.iload_n 2, 1) := by decide +kernel
theorem dX9_nights_45 : decode cX9_nights 45 = .ok (.ifCond .ne 7, 3) := by decide +kernel
theorem dX9_nights_48 : decode cX9_nights 48 = .ok (.iload_n 3, 1) := by decide +kernel
theorem dX9_nights_49 : decode cX9_nights 49 = .ok (.goto 14, 3) := by decide +kernel
theorem dX9_nights_52 : decode cX9_nights 52 = .ok (.bipush (-6), 2) := by decide +kernel
theorem dX9_nights_54 : decode cX9_nights 54 = .ok (.goto 9, 3) := by decide +kernel
theorem dX9_nights_57 : decode cX9_nights 57 = .ok (.aload_n 0, 1) := by decide +kernel
theorem dX9_nights_58 : decode cX9_nights 58 = .ok (.iload_n 1, 1) := by decide +kernel
theorem dX9_nights_59 : decode cX9_nights 59 = .ok (.iload_n 3, 1) := by decide +kernel
theorem dX9_nights_60 : decode cX9_nights 60 = .ok (.invokevirtual 242, 3) := by decide +kernel
theorem dX9_nights_63 : decode cX9_nights 63 = .ok (.ireturn, 1) := by decide +kernel
theorem dX9_needsOf_0 : decode cX9_needsOf 0 = .ok (.aload_n 0, 1) := by decide +kernel
theorem dX9_needsOf_1 : decode cX9_needsOf 1 = .ok (.getfield 16, 3) := by decide +kernel
theorem dX9_needsOf_4 : decode cX9_needsOf 4 = .ok (.iconst 4, 1) := by decide +kernel
theorem dX9_needsOf_5 : decode cX9_needsOf 5 = .ok (.iload_n 1, 1) := by decide +kernel
theorem dX9_needsOf_6 : decode cX9_needsOf 6 = .ok (.imul, 1) := by decide +kernel
theorem dX9_needsOf_7 : decode cX9_needsOf 7 = .ok (.iaload, 1) := by decide +kernel
theorem dX9_needsOf_8 : decode cX9_needsOf 8 = .ok (.aload_n 0, 1) := by decide +kernel
theorem dX9_needsOf_9 : decode cX9_needsOf 9 = .ok (.getfield 16, 3) := by decide +kernel
theorem dX9_needsOf_12 : decode cX9_needsOf 12 = .ok (.iconst 4, 1) := by decide +kernel
theorem dX9_needsOf_13 : decode cX9_needsOf 13 = .ok (.iload_n 1, 1) := by decide +kernel
theorem dX9_needsOf_14 : decode cX9_needsOf 14 = .ok (.imul, 1) := by decide +kernel
theorem dX9_needsOf_15 : decode cX9_needsOf 15 = .ok (.iconst 1, 1) := by decide +kernel
theorem dX9_needsOf_16 : decode cX9_needsOf 16 = .ok (.iadd, 1) := by decide +kernel
theorem dX9_needsOf_17 : decode cX9_needsOf 17 = .ok (.iaload, 1) := by decide +kernel
theorem dX9_needsOf_18 : decode cX9_needsOf 18 = .ok (.iadd, 1) := by decide +kernel
theorem dX9_needsOf_19 : decode cX9_needsOf 19 = .ok (.aload_n 0, 1) := by decide +kernel
theorem dX9_needsOf_20 : decode cX9_needsOf 20 = .ok (.getfield 16, 3) := by decide +kernel
theorem dX9_needsOf_23 : decode cX9_needsOf 23 = .ok (.iconst 4, 1) := by decide +kernel
theorem dX9_needsOf_24 : decode cX9_needsOf 24 = .ok (.iload_n 1, 1) := by decide +kernel
theorem dX9_needsOf_25 : decode cX9_needsOf 25 = .ok (.imul, 1) := by decide +kernel
theorem dX9_needsOf_26 : decode cX9_needsOf 26 = .ok (.iconst 2, 1) := by decide +kernel
theorem dX9_needsOf_27 : decode cX9_needsOf 27 = .ok (.iadd, 1) := by decide +kernel
theorem dX9_needsOf_28 : decode cX9_needsOf 28 = .ok (.iaload, 1) := by decide +kernel
theorem dX9_needsOf_29 : decode cX9_needsOf 29 = .ok (.iadd, 1) := by decide +kernel
theorem dX9_needsOf_30 : decode cX9_needsOf 30 = .ok (.aload_n 0, 1) := by decide +kernel
theorem dX9_needsOf_31 : decode cX9_needsOf 31 = .ok (.getfield 16, 3) := by decide +kernel
theorem dX9_needsOf_34 : decode cX9_needsOf 34 = .ok (.iconst 4, 1) := by decide +kernel
theorem dX9_needsOf_35 : decode cX9_needsOf 35 = .ok (.iload_n 1, 1) := by decide +kernel
theorem dX9_needsOf_36 : decode cX9_needsOf 36 = .ok (.imul, 1) := by decide +kernel
theorem dX9_needsOf_37 : decode cX9_needsOf 37 = .ok (.iconst 3, 1) := by decide +kernel
theorem dX9_needsOf_38 : decode cX9_needsOf 38 = .ok (.iadd, 1) := by decide +kernel
theorem dX9_needsOf_39 : decode cX9_needsOf 39 = .ok (.iaload, 1) := by decide +kernel
theorem dX9_needsOf_40 : decode cX9_needsOf 40 = .ok (.iadd, 1) := by decide +kernel
theorem dX9_needsOf_41 : decode cX9_needsOf 41 = .ok (.ireturn, 1) := by decide +kernel
theorem dX9_barsOf_0 : decode cX9_barsOf 0 = .ok (.iconst 0, 1) := by decide +kernel
theorem dX9_barsOf_1 : decode cX9_barsOf 1 = .ok (.istore_n 2, 1) := by decide +kernel
theorem dX9_barsOf_2 : decode cX9_barsOf 2 = .ok (.iconst 0, 1) := by decide +kernel
theorem dX9_barsOf_3 : decode cX9_barsOf 3 = .ok (.istore_n 3, 1) := by decide +kernel
theorem dX9_barsOf_4 : decode cX9_barsOf 4 = .ok (.iload_n 3, 1) := by decide +kernel
theorem dX9_barsOf_5 : decode cX9_barsOf 5 = .ok (.bipush 6, 2) := by decide +kernel
theorem dX9_barsOf_7 : decode cX9_barsOf 7 = .ok (.if_icmp .ge 31, 3) := by decide +kernel
theorem dX9_barsOf_10 : decode cX9_barsOf 10 = .ok (.iload_n 2, 1) := by decide +kernel
theorem dX9_barsOf_11 : decode cX9_barsOf 11 = .ok (.iload_n 1, 1) := by decide +kernel
theorem dX9_barsOf_12 : decode cX9_barsOf 12 = .ok (.iload_n 3, 1) := by decide +kernel
theorem dX9_barsOf_13 : decode cX9_barsOf 13 = .ok (.ishr, 1) := by decide +kernel
theorem dX9_barsOf_14 : decode cX9_barsOf 14 = .ok (.iconst 1, 1) := by decide +kernel
theorem dX9_barsOf_15 : decode cX9_barsOf 15 = .ok (.iand, 1) := by decide +kernel
theorem dX9_barsOf_16 : decode cX9_barsOf 16 = .ok (.iconst 1, 1) := by decide +kernel
theorem dX9_barsOf_17 : decode cX9_barsOf 17 = .ok (.if_icmp .ne 12, 3) := by decide +kernel
theorem dX9_barsOf_20 : decode cX9_barsOf 20 = .ok (.aload_n 0, 1) := by decide +kernel
theorem dX9_barsOf_21 : decode cX9_barsOf 21 = .ok (.getfield 19, 3) := by decide +kernel
theorem dX9_barsOf_24 : decode cX9_barsOf 24 = .ok (.iload_n 3, 1) := by decide +kernel
theorem dX9_barsOf_25 : decode cX9_barsOf 25 = .ok (.iaload, 1) := by decide +kernel
theorem dX9_barsOf_26 : decode cX9_barsOf 26 = .ok (.goto 4, 3) := by decide +kernel
theorem dX9_barsOf_29 : decode cX9_barsOf 29 = .ok (.iconst 0, 1) := by decide +kernel
theorem dX9_barsOf_30 : decode cX9_barsOf 30 = .ok (.iadd, 1) := by decide +kernel
theorem dX9_barsOf_31 : decode cX9_barsOf 31 = .ok (.istore_n 2, 1) := by decide +kernel
theorem dX9_barsOf_32 : decode cX9_barsOf 32 = .ok (.iinc 3 1, 3) := by decide +kernel
theorem dX9_barsOf_35 : decode cX9_barsOf 35 = .ok (.goto (-31), 3) := by decide +kernel
theorem dX9_barsOf_38 : decode cX9_barsOf 38 = .ok (.iload_n 2, 1) := by decide +kernel
theorem dX9_barsOf_39 : decode cX9_barsOf 39 = .ok (.ireturn, 1) := by decide +kernel
theorem dX9_paysOf_0 : decode cX9_paysOf 0 = .ok (.iconst 0, 1) := by decide +kernel
theorem dX9_paysOf_1 : decode cX9_paysOf 1 = .ok (.istore_n 2, 1) := by decide +kernel
theorem dX9_paysOf_2 : decode cX9_paysOf 2 = .ok (.iconst 0, 1) := by decide +kernel
theorem dX9_paysOf_3 : decode cX9_paysOf 3 = .ok (.istore_n 3, 1) := by decide +kernel
theorem dX9_paysOf_4 : decode cX9_paysOf 4 = .ok (.iload_n 3, 1) := by decide +kernel
theorem dX9_paysOf_5 : decode cX9_paysOf 5 = .ok (.bipush 6, 2) := by decide +kernel
theorem dX9_paysOf_7 : decode cX9_paysOf 7 = .ok (.if_icmp .ge 44, 3) := by decide +kernel
theorem dX9_paysOf_10 : decode cX9_paysOf 10 = .ok (.iload_n 2, 1) := by decide +kernel
theorem dX9_paysOf_11 : decode cX9_paysOf 11 = .ok (.iload_n 1, 1) := by decide +kernel
theorem dX9_paysOf_12 : decode cX9_paysOf 12 = .ok (.iload_n 3, 1) := by decide +kernel
theorem dX9_paysOf_13 : decode cX9_paysOf 13 = .ok (.ishr, 1) := by decide +kernel
theorem dX9_paysOf_14 : decode cX9_paysOf 14 = .ok (.iconst 1, 1) := by decide +kernel
theorem dX9_paysOf_15 : decode cX9_paysOf 15 = .ok (.iand, 1) := by decide +kernel
theorem dX9_paysOf_16 : decode cX9_paysOf 16 = .ok (.iconst 1, 1) := by decide +kernel
theorem dX9_paysOf_17 : decode cX9_paysOf 17 = .ok (.if_icmp .ne 25, 3) := by decide +kernel
theorem dX9_paysOf_20 : decode cX9_paysOf 20 = .ok (.aload_n 0, 1) := by decide +kernel
theorem dX9_paysOf_21 : decode cX9_paysOf 21 = .ok (.getfield 19, 3) := by decide +kernel
theorem dX9_paysOf_24 : decode cX9_paysOf 24 = .ok (.iload_n 3, 1) := by decide +kernel
theorem dX9_paysOf_25 : decode cX9_paysOf 25 = .ok (.iaload, 1) := by decide +kernel
theorem dX9_paysOf_26 : decode cX9_paysOf 26 = .ok (.aload_n 0, 1) := by decide +kernel
theorem dX9_paysOf_27 : decode cX9_paysOf 27 = .ok (.getfield 22, 3) := by decide +kernel
theorem dX9_paysOf_30 : decode cX9_paysOf 30 = .ok (.iload_n 3, 1) := by decide +kernel
theorem dX9_paysOf_31 : decode cX9_paysOf 31 = .ok (.iaload, 1) := by decide +kernel
theorem dX9_paysOf_32 : decode cX9_paysOf 32 = .ok (.imul, 1) := by decide +kernel
theorem dX9_paysOf_33 : decode cX9_paysOf 33 = .ok (.aload_n 0, 1) := by decide +kernel
theorem dX9_paysOf_34 : decode cX9_paysOf 34 = .ok (.iload_n 3, 1) := by decide +kernel
theorem dX9_paysOf_35 : decode cX9_paysOf 35 = .ok (.invokevirtual 245, 3) := by decide +kernel
theorem dX9_paysOf_38 : decode cX9_paysOf 38 = .ok (.imul, 1) := by decide +kernel
theorem dX9_paysOf_39 : decode cX9_paysOf 39 = .ok (.goto 4, 3) := by decide +kernel
theorem dX9_paysOf_42 : decode cX9_paysOf 42 = .ok (.iconst 0, 1) := by decide +kernel
theorem dX9_paysOf_43 : decode cX9_paysOf 43 = .ok (.iadd, 1) := by decide +kernel
theorem dX9_paysOf_44 : decode cX9_paysOf 44 = .ok (.istore_n 2, 1) := by decide +kernel
theorem dX9_paysOf_45 : decode cX9_paysOf 45 = .ok (.iinc 3 1, 3) := by decide +kernel
theorem dX9_paysOf_48 : decode cX9_paysOf 48 = .ok (.goto (-44), 3) := by decide +kernel
theorem dX9_paysOf_51 : decode cX9_paysOf 51 = .ok (.iload_n 2, 1) := by decide +kernel
theorem dX9_paysOf_52 : decode cX9_paysOf 52 = .ok (.ireturn, 1) := by decide +kernel
theorem dX9_programme_0 : decode cX9_programme 0 = .ok (.iload_n 1, 1) := by decide +kernel
theorem dX9_programme_1 : decode cX9_programme 1 = .ok (.i2l, 1) := by decide +kernel
theorem dX9_programme_2 : decode cX9_programme 2 = .ok (.lconst 0, 1) := by decide +kernel
theorem dX9_programme_3 : decode cX9_programme 3 = .ok (.ldc2_w 248, 3) := by decide +kernel
theorem dX9_programme_6 : decode cX9_programme 6 = .ok (.invokestatic 77, 3) := by decide +kernel
theorem dX9_programme_9 : decode cX9_programme 9 = .ok (.ifCond .eq 13, 3) := by decide +kernel
theorem dX9_programme_12 : decode cX9_programme 12 = .ok (.iload_n 2, 1) := by decide +kernel
theorem dX9_programme_13 : decode cX9_programme 13 = .ok (.i2l, 1) := by decide +kernel
theorem dX9_programme_14 : decode cX9_programme 14 = .ok (.lconst 0, 1) := by decide +kernel
theorem dX9_programme_15 : decode cX9_programme 15 = .ok (.lconst 1, 1) := by decide +kernel
theorem dX9_programme_16 : decode cX9_programme 16 = .ok (.invokestatic 77, 3) := by decide +kernel
theorem dX9_programme_19 : decode cX9_programme 19 = .ok (.ifCond .ne 6, 3) := by decide +kernel
theorem dX9_programme_22 : decode cX9_programme 22 = .ok (.bipush (-2), 2) := by decide +kernel
theorem dX9_programme_24 : decode cX9_programme 24 = .ok (.ireturn, 1) := by decide +kernel
theorem dX9_programme_25 : decode cX9_programme 25 = .ok (.iconst 0, 1) := by decide +kernel
theorem dX9_programme_26 : decode cX9_programme 26 = .ok (.istore_n 3, 1) := by decide +kernel
theorem dX9_programme_27 : decode cX9_programme 27 = .ok (.iconst 1, 1) := by decide +kernel
theorem dX9_programme_28 : decode cX9_programme 28 = .ok (.istore 4, 2) := by decide +kernel
theorem dX9_programme_30 : decode cX9_programme 30 = .ok (.iload 4, 2) := by decide +kernel
theorem dX9_programme_32 : decode cX9_programme 32 = .ok (.bipush 64, 2) := by decide +kernel
theorem dX9_programme_34 : decode cX9_programme 34 = .ok (.if_icmp .ge 40, 3) := by decide +kernel
theorem dX9_programme_37 : decode cX9_programme 37 = .ok (.aload_n 0, 1) := by decide +kernel
theorem dX9_programme_38 : decode cX9_programme 38 = .ok (.iload 4, 2) := by decide +kernel
theorem dX9_programme_40 : decode cX9_programme 40 = .ok (.invokevirtual 250, 3) := by decide +kernel
theorem dX9_programme_43 : decode cX9_programme 43 = .ok (.iload_n 1, 1) := by decide +kernel
theorem dX9_programme_44 : decode cX9_programme 44 = .ok (.if_icmp .gt 22, 3) := by decide +kernel
theorem dX9_programme_47 : decode cX9_programme 47 = .ok (.aload_n 0, 1) := by decide +kernel
theorem dX9_programme_48 : decode cX9_programme 48 = .ok (.iload 4, 2) := by decide +kernel
theorem dX9_programme_50 : decode cX9_programme 50 = .ok (.invokevirtual 253, 3) := by decide +kernel
theorem dX9_programme_53 : decode cX9_programme 53 = .ok (.aload_n 0, 1) := by decide +kernel
theorem dX9_programme_54 : decode cX9_programme 54 = .ok (.iload_n 3, 1) := by decide +kernel
theorem dX9_programme_55 : decode cX9_programme 55 = .ok (.invokevirtual 253, 3) := by decide +kernel
theorem dX9_programme_58 : decode cX9_programme 58 = .ok (.if_icmp .le 8, 3) := by decide +kernel
theorem dX9_programme_61 : decode cX9_programme 61 = .ok (.iload 4, 2) := by decide +kernel
theorem dX9_programme_63 : decode cX9_programme 63 = .ok (.goto 4, 3) := by decide +kernel
theorem dX9_programme_66 : decode cX9_programme 66 = .ok (.iload_n 3, 1) := by decide +kernel
theorem dX9_programme_67 : decode cX9_programme 67 = .ok (.istore_n 3, 1) := by decide +kernel
theorem dX9_programme_68 : decode cX9_programme 68 = .ok (.iinc 4 1, 3) := by decide +kernel
theorem dX9_programme_71 : decode cX9_programme 71 = .ok (.goto (-41), 3) := by decide +kernel
theorem dX9_programme_74 : decode cX9_programme 74 = .ok (.iload_n 2, 1) := by decide +kernel
theorem dX9_programme_75 : decode cX9_programme 75 = .ok (.ifCond .ne 11, 3) := by decide +kernel
theorem dX9_programme_78 : decode cX9_programme 78 = .ok (.aload_n 0, 1) := by decide +kernel
theorem dX9_programme_79 : decode cX9_programme 79 = .ok (.iload_n 3, 1) := by decide +kernel
theorem dX9_programme_80 : decode cX9_programme 80 = .ok (.invokevirtual 253, 3) := by decide +kernel
theorem dX9_programme_83 : decode cX9_programme 83 = .ok (.goto 4, 3) := by decide +kernel
theorem dX9_programme_86 : decode cX9_programme 86 = .ok (.iload_n 3, 1) := by decide +kernel
theorem dX9_programme_87 : decode cX9_programme 87 = .ok (.ireturn, 1) := by decide +kernel
theorem dX9_ruined_0 : decode cX9_ruined 0 = .ok (.iconst 0, 1) := by decide +kernel
theorem dX9_ruined_1 : decode cX9_ruined 1 = .ok (.istore_n 3, 1) := by decide +kernel
theorem dX9_ruined_2 : decode cX9_ruined 2 = .ok (.iload_n 2, 1) := by decide +kernel
theorem dX9_ruined_3 : decode cX9_ruined 3 = .ok (.istore 4, 2) := by decide +kernel
theorem dX9_ruined_5 : decode cX9_ruined 5 = .ok (.iconst 0, 1) := by decide +kernel
theorem dX9_ruined_6 : decode cX9_ruined 6 = .ok (.istore 5, 2) := by decide +kernel
theorem dX9_ruined_8 : decode cX9_ruined 8 = .ok (.iload 5, 2) := by decide +kernel
theorem dX9_ruined_10 : decode cX9_ruined 10 = .ok (.bipush 8, 2) := by decide +kernel
theorem dX9_ruined_12 : decode cX9_ruined 12 = .ok (.if_icmp .ge 44, 3) := by decide +kernel
theorem dX9_ruined_15 : decode cX9_ruined 15 = .ok (.iload 4, 2) := by decide +kernel
theorem dX9_ruined_17 : decode cX9_ruined 17 = .ok (.ifCond .le 39, 3) := by decide +kernel
theorem dX9_ruined_20 : decode cX9_ruined 20 = .ok (.aload_n 0, 1) := by decide +kernel
theorem dX9_ruined_21 : decode cX9_ruined 21 = .ok (.iload 5, 2) := by decide +kernel
theorem dX9_ruined_23 : decode cX9_ruined 23 = .ok (.iload_n 1, 1) := by decide +kernel
theorem dX9_ruined_24 : decode cX9_ruined 24 = .ok (.invokevirtual 146, 3) := by decide +kernel
theorem dX9_ruined_27 : decode cX9_ruined 27 = .ok (.ifCond .eq 23, 3) := by decide +kernel
theorem dX9_ruined_30 : decode cX9_ruined 30 = .ok (.aload_n 0, 1) := by decide +kernel
theorem dX9_ruined_31 : decode cX9_ruined 31 = .ok (.getfield 13, 3) := by decide +kernel
theorem dX9_ruined_34 : decode cX9_ruined 34 = .ok (.iload 5, 2) := by decide +kernel
theorem dX9_ruined_36 : decode cX9_ruined 36 = .ok (.iaload, 1) := by decide +kernel
theorem dX9_ruined_37 : decode cX9_ruined 37 = .ok (.ifCond .ne 13, 3) := by decide +kernel
theorem dX9_ruined_40 : decode cX9_ruined 40 = .ok (.iload_n 3, 1) := by decide +kernel
theorem dX9_ruined_41 : decode cX9_ruined 41 = .ok (.iconst 1, 1) := by decide +kernel
theorem dX9_ruined_42 : decode cX9_ruined 42 = .ok (.iload 5, 2) := by decide +kernel
theorem dX9_ruined_44 : decode cX9_ruined 44 = .ok (.ishl, 1) := by decide +kernel
theorem dX9_ruined_45 : decode cX9_ruined 45 = .ok (.ior, 1) := by decide +kernel
theorem dX9_ruined_46 : decode cX9_ruined 46 = .ok (.istore_n 3, 1) := by decide +kernel
theorem dX9_ruined_47 : decode cX9_ruined 47 = .ok (.iinc 4 (-1), 3) := by decide +kernel
theorem dX9_ruined_50 : decode cX9_ruined 50 = .ok (.iinc 5 1, 3) := by decide +kernel
theorem dX9_ruined_53 : decode cX9_ruined 53 = .ok (.goto (-45), 3) := by decide +kernel
theorem dX9_ruined_56 : decode cX9_ruined 56 = .ok (.iload 4, 2) := by decide +kernel
theorem dX9_ruined_58 : decode cX9_ruined 58 = .ok (.ifCond .le 8, 3) := by decide +kernel
theorem dX9_ruined_61 : decode cX9_ruined 61 = .ok (.bipush (-6), 2) := by decide +kernel
theorem dX9_ruined_63 : decode cX9_ruined 63 = .ok (.goto 4, 3) := by decide +kernel
theorem dX9_ruined_66 : decode cX9_ruined 66 = .ok (.iload_n 3, 1) := by decide +kernel
theorem dX9_ruined_67 : decode cX9_ruined 67 = .ok (.ireturn, 1) := by decide +kernel
theorem dX9_ruin_0 : decode cX9_ruin 0 = .ok (.iload_n 1, 1) := by decide +kernel
theorem dX9_ruin_1 : decode cX9_ruin 1 = .ok (.i2l, 1) := by decide +kernel
theorem dX9_ruin_2 : decode cX9_ruin 2 = .ok (.lconst 0, 1) := by decide +kernel
theorem dX9_ruin_3 : decode cX9_ruin 3 = .ok (.ldc2_w 105, 3) := by decide +kernel
theorem dX9_ruin_6 : decode cX9_ruin 6 = .ok (.invokestatic 77, 3) := by decide +kernel
theorem dX9_ruin_9 : decode cX9_ruin 9 = .ok (.ifCond .ne 5, 3) := by decide +kernel
theorem dX9_ruin_12 : decode cX9_ruin 12 = .ok (.iconst (-1), 1) := by decide +kernel
theorem dX9_ruin_13 : decode cX9_ruin 13 = .ok (.ireturn, 1) := by decide +kernel
theorem dX9_ruin_14 : decode cX9_ruin 14 = .ok (.iload_n 2, 1) := by decide +kernel
theorem dX9_ruin_15 : decode cX9_ruin 15 = .ok (.i2l, 1) := by decide +kernel
theorem dX9_ruin_16 : decode cX9_ruin 16 = .ok (.lconst 0, 1) := by decide +kernel
theorem dX9_ruin_17 : decode cX9_ruin 17 = .ok (.lconst 1, 1) := by decide +kernel
theorem dX9_ruin_18 : decode cX9_ruin 18 = .ok (.invokestatic 77, 3) := by decide +kernel
theorem dX9_ruin_21 : decode cX9_ruin 21 = .ok (.ifCond .ne 6, 3) := by decide +kernel
theorem dX9_ruin_24 : decode cX9_ruin 24 = .ok (.bipush (-2), 2) := by decide +kernel
theorem dX9_ruin_26 : decode cX9_ruin 26 = .ok (.ireturn, 1) := by decide +kernel
theorem dX9_ruin_27 : decode cX9_ruin 27 = .ok (.iconst 0, 1) := by decide +kernel
theorem dX9_ruin_28 : decode cX9_ruin 28 = .ok (.istore_n 3, 1) := by decide +kernel
theorem dX9_ruin_29 : decode cX9_ruin 29 = .ok (.iconst 0, 1) := by decide +kernel
theorem dX9_ruin_30 : decode cX9_ruin 30 = .ok (.istore 4, 2) := by decide +kernel
theorem dX9_ruin_32 : decode cX9_ruin 32 = .ok (.iload 4, 2) := by decide +kernel
theorem dX9_ruin_34 : decode cX9_ruin 34 = .ok (.iconst 4, 1) := by decide +kernel
theorem dX9_ruin_35 : decode cX9_ruin 35 = .ok (.if_icmp .ge 49, 3) := by decide +kernel
theorem dX9_ruin_38 : decode cX9_ruin 38 = .ok (.aload_n 0, 1) := by decide +kernel
theorem dX9_ruin_39 : decode cX9_ruin 39 = .ok (.iload 4, 2) := by decide +kernel
theorem dX9_ruin_41 : decode cX9_ruin 41 = .ok (.aload_n 0, 1) := by decide +kernel
theorem dX9_ruin_42 : decode cX9_ruin 42 = .ok (.getfield 16, 3) := by decide +kernel
theorem dX9_ruin_45 : decode cX9_ruin 45 = .ok (.iconst 4, 1) := by decide +kernel
theorem dX9_ruin_46 : decode cX9_ruin 46 = .ok (.iload_n 1, 1) := by decide +kernel
theorem dX9_ruin_47 : decode cX9_ruin 47 = .ok (.imul, 1) := by decide +kernel
theorem dX9_ruin_48 : decode cX9_ruin 48 = .ok (.iload 4, 2) := by decide +kernel
theorem dX9_ruin_50 : decode cX9_ruin 50 = .ok (.iadd, 1) := by decide +kernel
theorem dX9_ruin_51 : decode cX9_ruin 51 = .ok (.iaload, 1) := by decide +kernel
theorem dX9_ruin_52 : decode cX9_ruin 52 = .ok (.aload_n 0, 1) := by decide +kernel
theorem dX9_ruin_53 : decode cX9_ruin 53 = .ok (.iload 4, 2) := by decide +kernel
theorem dX9_ruin_55 : decode cX9_ruin 55 = .ok (.iconst 1, 1) := by decide +kernel
theorem dX9_ruin_56 : decode cX9_ruin 56 = .ok (.invokevirtual 150, 3) := by decide +kernel
theorem dX9_ruin_59 : decode cX9_ruin 59 = .ok (.isub, 1) := by decide +kernel
theorem dX9_ruin_60 : decode cX9_ruin 60 = .ok (.invokevirtual 256, 3) := by decide +kernel
theorem dX9_ruin_63 : decode cX9_ruin 63 = .ok (.istore 5, 2) := by decide +kernel
theorem dX9_ruin_65 : decode cX9_ruin 65 = .ok (.iload 5, 2) := by decide +kernel
theorem dX9_ruin_67 : decode cX9_ruin 67 = .ok (.ifCond .ge 6, 3) := by decide +kernel
theorem dX9_ruin_70 : decode cX9_ruin 70 = .ok (.bipush (-6), 2) := by decide +kernel
theorem dX9_ruin_72 : decode cX9_ruin 72 = .ok (.ireturn, 1) := by decide +kernel
theorem dX9_ruin_73 : decode cX9_ruin 73 = .ok (.iload_n 3, 1) := by decide +kernel
theorem dX9_ruin_74 : decode cX9_ruin 74 = .ok (.iload 5, 2) := by decide +kernel
theorem dX9_ruin_76 : decode cX9_ruin 76 = .ok (.ior, 1) := by decide +kernel
theorem dX9_ruin_77 : decode cX9_ruin 77 = .ok (.istore_n 3, 1) := by decide +kernel
theorem dX9_ruin_78 : decode cX9_ruin 78 = .ok (.iinc 4 1, 3) := by decide +kernel
theorem dX9_ruin_81 : decode cX9_ruin 81 = .ok (.goto (-49), 3) := by decide +kernel
theorem dX9_ruin_84 : decode cX9_ruin 84 = .ok (.iload_n 2, 1) := by decide +kernel
theorem dX9_ruin_85 : decode cX9_ruin 85 = .ok (.ifCond .ne 10, 3) := by decide +kernel
theorem dX9_ruin_88 : decode cX9_ruin 88 = .ok (.iload_n 3, 1) := by decide +kernel
theorem dX9_ruin_89 : decode cX9_ruin 89 = .ok (.invokestatic 95, 3) := by decide +kernel
theorem dX9_ruin_92 : decode cX9_ruin 92 = .ok (.goto 4, 3) := by decide +kernel
theorem dX9_ruin_95 : decode cX9_ruin 95 = .ok (.iload_n 3, 1) := by decide +kernel
theorem dX9_ruin_96 : decode cX9_ruin 96 = .ok (.ireturn, 1) := by decide +kernel
theorem dX9_ahead_0 : decode cX9_ahead 0 = .ok (.iconst 0, 1) := by decide +kernel
theorem dX9_ahead_1 : decode cX9_ahead 1 = .ok (.istore_n 2, 1) := by decide +kernel
theorem dX9_ahead_2 : decode cX9_ahead 2 = .ok (.iconst 0, 1) := by decide +kernel
theorem dX9_ahead_3 : decode cX9_ahead 3 = .ok (.istore_n 3, 1) := by decide +kernel
theorem dX9_ahead_4 : decode cX9_ahead 4 = .ok (.iload_n 3, 1) := by decide +kernel
theorem dX9_ahead_5 : decode cX9_ahead 5 = .ok (.bipush 6, 2) := by decide +kernel
theorem dX9_ahead_7 : decode cX9_ahead 7 = .ok (.if_icmp .ge 52, 3) := by decide +kernel
theorem dX9_ahead_10 : decode cX9_ahead 10 = .ok (.iload_n 2, 1) := by decide +kernel
theorem dX9_ahead_11 : decode cX9_ahead 11 = .ok (.aload_n 0, 1) := by decide +kernel
theorem dX9_ahead_12 : decode cX9_ahead 12 = .ok (.getfield 49, 3) := by decide +kernel
theorem dX9_ahead_15 : decode cX9_ahead 15 = .ok (.iload_n 3, 1) := by decide +kernel
theorem dX9_ahead_16 : decode cX9_ahead 16 = .ok (.iaload, 1) := by decide +kernel
theorem dX9_ahead_17 : decode cX9_ahead 17 = .ok (.aload_n 0, 1) := by decide +kernel
theorem dX9_ahead_18 : decode cX9_ahead 18 = .ok (.getfield 49, 3) := by decide +kernel
theorem dX9_ahead_21 : decode cX9_ahead 21 = .ok (.iload_n 1, 1) := by decide +kernel
theorem dX9_ahead_22 : decode cX9_ahead 22 = .ok (.iaload, 1) := by decide +kernel
theorem dX9_ahead_23 : decode cX9_ahead 23 = .ok (.if_icmp .gt 23, 3) := by decide +kernel
theorem dX9_ahead_26 : decode cX9_ahead 26 = .ok (.aload_n 0, 1) := by decide +kernel
theorem dX9_ahead_27 : decode cX9_ahead 27 = .ok (.getfield 49, 3) := by decide +kernel
theorem dX9_ahead_30 : decode cX9_ahead 30 = .ok (.iload_n 3, 1) := by decide +kernel
theorem dX9_ahead_31 : decode cX9_ahead 31 = .ok (.iaload, 1) := by decide +kernel
theorem dX9_ahead_32 : decode cX9_ahead 32 = .ok (.aload_n 0, 1) := by decide +kernel
theorem dX9_ahead_33 : decode cX9_ahead 33 = .ok (.getfield 49, 3) := by decide +kernel
theorem dX9_ahead_36 : decode cX9_ahead 36 = .ok (.iload_n 1, 1) := by decide +kernel
theorem dX9_ahead_37 : decode cX9_ahead 37 = .ok (.iaload, 1) := by decide +kernel
theorem dX9_ahead_38 : decode cX9_ahead 38 = .ok (.if_icmp .ne 12, 3) := by decide +kernel
theorem dX9_ahead_41 : decode cX9_ahead 41 = .ok (.iload_n 3, 1) := by decide +kernel
theorem dX9_ahead_42 : decode cX9_ahead 42 = .ok (.iload_n 1, 1) := by decide +kernel
theorem dX9_ahead_43 : decode cX9_ahead 43 = .ok (.if_icmp .ge 7, 3) := by decide +kernel
theorem dX9_ahead_46 : decode cX9_ahead 46 = .ok (.iconst 1, 1) := by decide +kernel
theorem dX9_ahead_47 : decode cX9_ahead 47 = .ok (.goto 4, 3) := by decide +kernel
theorem dX9_ahead_50 : decode cX9_ahead 50 = .ok (.iconst 0, 1) := by decide +kernel
theorem dX9_ahead_51 : decode cX9_ahead 51 = .ok (.iadd, 1) := by decide +kernel
theorem dX9_ahead_52 : decode cX9_ahead 52 = .ok (.istore_n 2, 1) := by decide +kernel
theorem dX9_ahead_53 : decode cX9_ahead 53 = .ok (.iinc 3 1, 3) := by decide +kernel
theorem dX9_ahead_56 : decode cX9_ahead 56 = .ok (.goto (-52), 3) := by decide +kernel
theorem dX9_ahead_59 : decode cX9_ahead 59 = .ok (.iload_n 2, 1) := by decide +kernel
theorem dX9_ahead_60 : decode cX9_ahead 60 = .ok (.ireturn, 1) := by decide +kernel
theorem dX9_seats_0 : decode cX9_seats 0 = .ok (.iload_n 1, 1) := by decide +kernel
theorem dX9_seats_1 : decode cX9_seats 1 = .ok (.i2l, 1) := by decide +kernel
theorem dX9_seats_2 : decode cX9_seats 2 = .ok (.lconst 0, 1) := by decide +kernel
theorem dX9_seats_3 : decode cX9_seats 3 = .ok (.ldc2_w 259, 3) := by decide +kernel
theorem dX9_seats_6 : decode cX9_seats 6 = .ok (.invokestatic 77, 3) := by decide +kernel
theorem dX9_seats_9 : decode cX9_seats 9 = .ok (.ifCond .eq 25, 3) := by decide +kernel
theorem dX9_seats_12 : decode cX9_seats 12 = .ok (.iload_n 2, 1) := by decide +kernel
theorem dX9_seats_13 : decode cX9_seats 13 = .ok (.i2l, 1) := by decide +kernel
theorem dX9_seats_14 : decode cX9_seats 14 = .ok (.lconst 0, 1) := by decide +kernel
theorem dX9_seats_15 : decode cX9_seats 15 = .ok (.ldc2_w 261, 3) := by decide +kernel
theorem dX9_seats_18 : decode cX9_seats 18 = .ok (.invokestatic 77, 3) := by decide +kernel
theorem dX9_seats_21 : decode cX9_seats 21 = .ok (.ifCond .eq 13, 3) := by decide +kernel
theorem dX9_seats_24 : decode cX9_seats 24 = .ok (.iload_n 3, 1) := by decide +kernel
theorem dX9_seats_25 : decode cX9_seats 25 = .ok (.i2l, 1) := by decide +kernel
theorem dX9_seats_26 : decode cX9_seats 26 = .ok (.lconst 0, 1) := by decide +kernel
theorem dX9_seats_27 : decode cX9_seats 27 = .ok (.lconst 1, 1) := by decide +kernel
theorem dX9_seats_28 : decode cX9_seats 28 = .ok (.invokestatic 77, 3) := by decide +kernel
theorem dX9_seats_31 : decode cX9_seats 31 = .ok (.ifCond .ne 6, 3) := by decide +kernel
theorem dX9_seats_34 : decode cX9_seats 34 = .ok (.bipush (-2), 2) := by decide +kernel
theorem dX9_seats_36 : decode cX9_seats 36 = .ok (.ireturn, 1) := by decide +kernel
theorem dX9_seats_37 : decode cX9_seats 37 = .ok (.iload_n 2, 1) := by decide +kernel
theorem dX9_seats_38 : decode cX9_seats 38 = .ok (.istore 4, 2) := by decide +kernel
theorem dX9_seats_40 : decode cX9_seats 40 = .ok (.iconst 5, 1) := by decide +kernel
theorem dX9_seats_41 : decode cX9_seats 41 = .ok (.istore 5, 2) := by decide +kernel
theorem dX9_seats_43 : decode cX9_seats 43 = .ok (.iload 5, 2) := by decide +kernel
theorem dX9_seats_45 : decode cX9_seats 45 = .ok (.ifCond .lt 28, 3) := by decide +kernel
theorem dX9_seats_48 : decode cX9_seats 48 = .ok (.aload_n 0, 1) := by decide +kernel
theorem dX9_seats_49 : decode cX9_seats 49 = .ok (.getfield 49, 3) := by decide +kernel
theorem dX9_seats_52 : decode cX9_seats 52 = .ok (.iload 5, 2) := by decide +kernel
theorem dX9_seats_54 : decode cX9_seats 54 = .ok (.iload 4, 2) := by decide +kernel
theorem dX9_seats_56 : decode cX9_seats 56 = .ok (.bipush 10, 2) := by decide +kernel
theorem dX9_seats_58 : decode cX9_seats 58 = .ok (.irem, 1) := by decide +kernel
theorem dX9_seats_59 : decode cX9_seats 59 = .ok (.iastore, 1) := by decide +kernel
theorem dX9_seats_60 : decode cX9_seats 60 = .ok (.iload 4, 2) := by decide +kernel
theorem dX9_seats_62 : decode cX9_seats 62 = .ok (.bipush 10, 2) := by decide +kernel
theorem dX9_seats_64 : decode cX9_seats 64 = .ok (.idiv, 1) := by decide +kernel
theorem dX9_seats_65 : decode cX9_seats 65 = .ok (.istore 4, 2) := by decide +kernel
theorem dX9_seats_67 : decode cX9_seats 67 = .ok (.iinc 5 (-1), 3) := by decide +kernel
theorem dX9_seats_70 : decode cX9_seats 70 = .ok (.goto (-27), 3) := by decide +kernel
theorem dX9_seats_73 : decode cX9_seats 73 = .ok (.iconst 0, 1) := by decide +kernel
theorem dX9_seats_74 : decode cX9_seats 74 = .ok (.istore 5, 2) := by decide +kernel
theorem dX9_seats_76 : decode cX9_seats 76 = .ok (.iconst 0, 1) := by decide +kernel
theorem dX9_seats_77 : decode cX9_seats 77 = .ok (.istore 6, 2) := by decide +kernel
theorem dX9_seats_79 : decode cX9_seats 79 = .ok (.iconst 0, 1) := by decide +kernel
theorem dX9_seats_80 : decode cX9_seats 80 = .ok (.istore 7, 2) := by decide +kernel
theorem dX9_seats_82 : decode cX9_seats 82 = .ok (.iload 7, 2) := by decide +kernel
theorem dX9_seats_84 : decode cX9_seats 84 = .ok (.bipush 6, 2) := by decide +kernel
theorem dX9_seats_86 : decode cX9_seats 86 = .ok (.if_icmp .ge 56, 3) := by decide +kernel
theorem dX9_seats_89 : decode cX9_seats 89 = .ok (.iload 5, 2) := by decide +kernel
theorem dX9_seats_91 : decode cX9_seats 91 = .ok (.aload_n 0, 1) := by decide +kernel
theorem dX9_seats_92 : decode cX9_seats 92 = .ok (.iload 7, 2) := by decide +kernel
theorem dX9_seats_94 : decode cX9_seats 94 = .ok (.invokevirtual 263, 3) := by decide +kernel
theorem dX9_seats_97 : decode cX9_seats 97 = .ok (.iload_n 1, 1) := by decide +kernel
theorem dX9_seats_98 : decode cX9_seats 98 = .ok (.if_icmp .ge 10, 3) := by decide +kernel
theorem dX9_seats_101 : decode cX9_seats 101 = .ok (.iconst 1, 1) := by decide +kernel
theorem dX9_seats_102 : decode cX9_seats 102 = .ok (.iload 7, 2) := by decide +kernel
theorem dX9_seats_104 : decode cX9_seats 104 = .ok (.ishl, 1) := by decide +kernel
theorem dX9_seats_105 : decode cX9_seats 105 = .ok (.goto 4, 3) := by decide +kernel
theorem dX9_seats_108 : decode cX9_seats 108 = .ok (.iconst 0, 1) := by decide +kernel
theorem dX9_seats_109 : decode cX9_seats 109 = .ok (.ior, 1) := by decide +kernel
theorem dX9_seats_110 : decode cX9_seats 110 = .ok (.istore 5, 2) := by decide +kernel
theorem dX9_seats_112 : decode cX9_seats 112 = .ok (.aload_n 0, 1) := by decide +kernel
theorem dX9_seats_113 : decode cX9_seats 113 = .ok (.iload 7, 2) := by decide +kernel
theorem dX9_seats_115 : decode cX9_seats 115 = .ok (.invokevirtual 263, 3) := by decide +kernel
theorem dX9_seats_118 : decode cX9_seats 118 = .ok (.iload_n 1, 1) := by decide +kernel
theorem dX9_seats_119 : decode cX9_seats 119 = .ok (.if_icmp .ne 13, 3) := by decide +kernel
theorem dX9_seats_122 : decode cX9_seats 122 = .ok (.aload_n 0, 1) := by decide +kernel
theorem dX9_seats_123 : decode cX9_seats 123 = .ok (.getfield 49, 3) := by decide +kernel
theorem dX9_seats_126 : decode cX9_seats 126 = .ok (.iload 7, 2) := by decide +kernel
theorem dX9_seats_128 : decode cX9_seats 128 = .ok (.iaload, 1) := by decide +kernel
theorem dX9_seats_129 : decode cX9_seats 129 = .ok (.goto 5, 3) := by decide +kernel
theorem dX9_seats_132 : decode cX9_seats 132 = .ok (.iload 6, 2) := by decide +kernel
theorem dX9_seats_134 : decode cX9_seats 134 = .ok (.istore 6, 2) := by decide +kernel
theorem dX9_seats_136 : decode cX9_seats 136 = .ok (.iinc 7 1, 3) := by decide +kernel
theorem dX9_seats_139 : decode cX9_seats 139 = .ok (.goto (-57), 3) := by decide +kernel
theorem dX9_seats_142 : decode cX9_seats 142 = .ok (.iload_n 3, 1) := by decide +kernel
theorem dX9_seats_143 : decode cX9_seats 143 = .ok (.ifCond .ne 8, 3) := by decide +kernel
theorem dX9_seats_146 : decode cX9_seats 146 = .ok (.iload 5, 2) := by decide +kernel
theorem dX9_seats_148 : decode cX9_seats 148 = .ok (.goto 5, 3) := by decide +kernel
theorem dX9_seats_151 : decode cX9_seats 151 = .ok (.iload 6, 2) := by decide +kernel
theorem dX9_seats_153 : decode cX9_seats 153 = .ok (.ireturn, 1) := by decide +kernel
theorem dX9_areRanks_0 : decode cX9_areRanks 0 = .ok (.iload_n 2, 1) := by decide +kernel
theorem dX9_areRanks_1 : decode cX9_areRanks 1 = .ok (.istore_n 3, 1) := by decide +kernel
theorem dX9_areRanks_2 : decode cX9_areRanks 2 = .ok (.iconst 0, 1) := by decide +kernel
theorem dX9_areRanks_3 : decode cX9_areRanks 3 = .ok (.istore 4, 2) := by decide +kernel
theorem dX9_areRanks_5 : decode cX9_areRanks 5 = .ok (.iconst 3, 1) := by decide +kernel
theorem dX9_areRanks_6 : decode cX9_areRanks 6 = .ok (.istore 5, 2) := by decide +kernel
theorem dX9_areRanks_8 : decode cX9_areRanks 8 = .ok (.iload 5, 2) := by decide +kernel
theorem dX9_areRanks_10 : decode cX9_areRanks 10 = .ok (.ifCond .lt 52, 3) := by decide +kernel
theorem dX9_areRanks_13 : decode cX9_areRanks 13 = .ok (.aload_n 0, 1) := by decide +kernel
theorem dX9_areRanks_14 : decode cX9_areRanks 14 = .ok (.getfield 52, 3) := by decide +kernel
theorem dX9_areRanks_17 : decode cX9_areRanks 17 = .ok (.iconst 4, 1) := by decide +kernel
theorem dX9_areRanks_18 : decode cX9_areRanks 18 = .ok (.iload_n 1, 1) := by decide +kernel
theorem dX9_areRanks_19 : decode cX9_areRanks 19 = .ok (.imul, 1) := by decide +kernel
theorem dX9_areRanks_20 : decode cX9_areRanks 20 = .ok (.iload 5, 2) := by decide +kernel
theorem dX9_areRanks_22 : decode cX9_areRanks 22 = .ok (.iadd, 1) := by decide +kernel
theorem dX9_areRanks_23 : decode cX9_areRanks 23 = .ok (.iload_n 3, 1) := by decide +kernel
theorem dX9_areRanks_24 : decode cX9_areRanks 24 = .ok (.bipush 10, 2) := by decide +kernel
theorem dX9_areRanks_26 : decode cX9_areRanks 26 = .ok (.irem, 1) := by decide +kernel
theorem dX9_areRanks_27 : decode cX9_areRanks 27 = .ok (.iastore, 1) := by decide +kernel
theorem dX9_areRanks_28 : decode cX9_areRanks 28 = .ok (.iload 4, 2) := by decide +kernel
theorem dX9_areRanks_30 : decode cX9_areRanks 30 = .ok (.iload_n 3, 1) := by decide +kernel
theorem dX9_areRanks_31 : decode cX9_areRanks 31 = .ok (.bipush 10, 2) := by decide +kernel
theorem dX9_areRanks_33 : decode cX9_areRanks 33 = .ok (.irem, 1) := by decide +kernel
theorem dX9_areRanks_34 : decode cX9_areRanks 34 = .ok (.iconst 4, 1) := by decide +kernel
theorem dX9_areRanks_35 : decode cX9_areRanks 35 = .ok (.if_icmp .ge 12, 3) := by decide +kernel
theorem dX9_areRanks_38 : decode cX9_areRanks 38 = .ok (.iconst 1, 1) := by decide +kernel
theorem dX9_areRanks_39 : decode cX9_areRanks 39 = .ok (.iload_n 3, 1) := by decide +kernel
theorem dX9_areRanks_40 : decode cX9_areRanks 40 = .ok (.bipush 10, 2) := by decide +kernel
theorem dX9_areRanks_42 : decode cX9_areRanks 42 = .ok (.irem, 1) := by decide +kernel
theorem dX9_areRanks_43 : decode cX9_areRanks 43 = .ok (.ishl, 1) := by decide +kernel
theorem dX9_areRanks_44 : decode cX9_areRanks 44 = .ok (.goto 4, 3) := by decide +kernel
theorem dX9_areRanks_47 : decode cX9_areRanks 47 = .ok (.iconst 0, 1) := by decide +kernel
theorem dX9_areRanks_48 : decode cX9_areRanks 48 = .ok (.ior, 1) := by decide +kernel
theorem dX9_areRanks_49 : decode cX9_areRanks 49 = .ok (.istore 4, 2) := by decide +kernel
theorem dX9_areRanks_51 : decode cX9_areRanks 51 = .ok (.iload_n 3, 1) := by decide +kernel
theorem dX9_areRanks_52 : decode cX9_areRanks 52 = .ok (.bipush 10, 2) := by decide +kernel
theorem dX9_areRanks_54 : decode cX9_areRanks 54 = .ok (.idiv, 1) := by decide +kernel
theorem dX9_areRanks_55 : decode cX9_areRanks 55 = .ok (.istore_n 3, 1) := by decide +kernel
theorem dX9_areRanks_56 : decode cX9_areRanks 56 = .ok (.iinc 5 (-1), 3) := by decide +kernel
theorem dX9_areRanks_59 : decode cX9_areRanks 59 = .ok (.goto (-51), 3) := by decide +kernel
theorem dX9_areRanks_62 : decode cX9_areRanks 62 = .ok (.iload_n 2, 1) := by decide +kernel
theorem dX9_areRanks_63 : decode cX9_areRanks 63 = .ok (.i2l, 1) := by decide +kernel
theorem dX9_areRanks_64 : decode cX9_areRanks 64 = .ok (.lconst 0, 1) := by decide +kernel
theorem dX9_areRanks_65 : decode cX9_areRanks 65 = .ok (.ldc2_w 266, 3) := by decide +kernel
theorem dX9_areRanks_68 : decode cX9_areRanks 68 = .ok (.invokestatic 77, 3) := by decide +kernel
theorem dX9_areRanks_71 : decode cX9_areRanks 71 = .ok (.ifCond .eq 14, 3) := by decide +kernel
theorem dX9_areRanks_74 : decode cX9_areRanks 74 = .ok (.iload 4, 2) := by decide +kernel
theorem dX9_areRanks_76 : decode cX9_areRanks 76 = .ok (.bipush 15, 2) := by decide +kernel
theorem dX9_areRanks_78 : decode cX9_areRanks 78 = .ok (.if_icmp .ne 7, 3) := by decide +kernel
theorem dX9_areRanks_81 : decode cX9_areRanks 81 = .ok (.iconst 1, 1) := by decide +kernel
theorem dX9_areRanks_82 : decode cX9_areRanks 82 = .ok (.goto 4, 3) := by decide +kernel
theorem dX9_areRanks_85 : decode cX9_areRanks 85 = .ok (.iconst 0, 1) := by decide +kernel
theorem dX9_areRanks_86 : decode cX9_areRanks 86 = .ok (.ireturn, 1) := by decide +kernel
theorem dX9_pointsTo_0 : decode cX9_pointsTo 0 = .ok (.bipush (-6), 2) := by decide +kernel
theorem dX9_pointsTo_2 : decode cX9_pointsTo 2 = .ok (.istore_n 3, 1) := by decide +kernel
theorem dX9_pointsTo_3 : decode cX9_pointsTo 3 = .ok (.iconst 3, 1) := by decide +kernel
theorem dX9_pointsTo_4 : decode cX9_pointsTo 4 = .ok (.istore 4, 2) := by decide +kernel
theorem dX9_pointsTo_6 : decode cX9_pointsTo 6 = .ok (.iload 4, 2) := by decide +kernel
theorem dX9_pointsTo_8 : decode cX9_pointsTo 8 = .ok (.ifCond .lt 44, 3) := by decide +kernel
theorem dX9_pointsTo_11 : decode cX9_pointsTo 11 = .ok (.iload_n 2, 1) := by decide +kernel
theorem dX9_pointsTo_12 : decode cX9_pointsTo 12 = .ok (.aload_n 0, 1) := by decide +kernel
theorem dX9_pointsTo_13 : decode cX9_pointsTo 13 = .ok (.getfield 52, 3) := by decide +kernel
theorem dX9_pointsTo_16 : decode cX9_pointsTo 16 = .ok (.iconst 4, 1) := by decide +kernel
theorem dX9_pointsTo_17 : decode cX9_pointsTo 17 = .ok (.iload_n 1, 1) := by decide +kernel
theorem dX9_pointsTo_18 : decode cX9_pointsTo 18 = .ok (.imul, 1) := by decide +kernel
theorem dX9_pointsTo_19 : decode cX9_pointsTo 19 = .ok (.iload 4, 2) := by decide +kernel
theorem dX9_pointsTo_21 : decode cX9_pointsTo 21 = .ok (.iadd, 1) := by decide +kernel
theorem dX9_pointsTo_22 : decode cX9_pointsTo 22 = .ok (.iaload, 1) := by decide +kernel
theorem dX9_pointsTo_23 : decode cX9_pointsTo 23 = .ok (.ishr, 1) := by decide +kernel
theorem dX9_pointsTo_24 : decode cX9_pointsTo 24 = .ok (.iconst 1, 1) := by decide +kernel
theorem dX9_pointsTo_25 : decode cX9_pointsTo 25 = .ok (.iand, 1) := by decide +kernel
theorem dX9_pointsTo_26 : decode cX9_pointsTo 26 = .ok (.iconst 1, 1) := by decide +kernel
theorem dX9_pointsTo_27 : decode cX9_pointsTo 27 = .ok (.if_icmp .ne 17, 3) := by decide +kernel
theorem dX9_pointsTo_30 : decode cX9_pointsTo 30 = .ok (.aload_n 0, 1) := by decide +kernel
theorem dX9_pointsTo_31 : decode cX9_pointsTo 31 = .ok (.getfield 52, 3) := by decide +kernel
theorem dX9_pointsTo_34 : decode cX9_pointsTo 34 = .ok (.iconst 4, 1) := by decide +kernel
theorem dX9_pointsTo_35 : decode cX9_pointsTo 35 = .ok (.iload_n 1, 1) := by decide +kernel
theorem dX9_pointsTo_36 : decode cX9_pointsTo 36 = .ok (.imul, 1) := by decide +kernel
theorem dX9_pointsTo_37 : decode cX9_pointsTo 37 = .ok (.iload 4, 2) := by decide +kernel
theorem dX9_pointsTo_39 : decode cX9_pointsTo 39 = .ok (.iadd, 1) := by decide +kernel
theorem dX9_pointsTo_40 : decode cX9_pointsTo 40 = .ok (.iaload, 1) := by decide +kernel
theorem dX9_pointsTo_41 : decode cX9_pointsTo 41 = .ok (.goto 4, 3) := by decide +kernel
theorem dX9_pointsTo_44 : decode cX9_pointsTo 44 = .ok (.iload_n 3, 1) := by decide +kernel
theorem dX9_pointsTo_45 : decode cX9_pointsTo 45 = .ok (.istore_n 3, 1) := by decide +kernel
theorem dX9_pointsTo_46 : decode cX9_pointsTo 46 = .ok (.iinc 4 (-1), 3) := by decide +kernel
theorem dX9_pointsTo_49 : decode cX9_pointsTo 49 = .ok (.goto (-43), 3) := by decide +kernel
theorem dX9_pointsTo_52 : decode cX9_pointsTo 52 = .ok (.iload_n 3, 1) := by decide +kernel
theorem dX9_pointsTo_53 : decode cX9_pointsTo 53 = .ok (.ireturn, 1) := by decide +kernel
theorem dX9_ringed_0 : decode cX9_ringed 0 = .ok (.iconst 0, 1) := by decide +kernel
theorem dX9_ringed_1 : decode cX9_ringed 1 = .ok (.istore_n 2, 1) := by decide +kernel
theorem dX9_ringed_2 : decode cX9_ringed 2 = .ok (.iconst 0, 1) := by decide +kernel
theorem dX9_ringed_3 : decode cX9_ringed 3 = .ok (.istore_n 3, 1) := by decide +kernel
theorem dX9_ringed_4 : decode cX9_ringed 4 = .ok (.iload_n 3, 1) := by decide +kernel
theorem dX9_ringed_5 : decode cX9_ringed 5 = .ok (.iconst 4, 1) := by decide +kernel
theorem dX9_ringed_6 : decode cX9_ringed 6 = .ok (.if_icmp .ge 81, 3) := by decide +kernel
theorem dX9_ringed_9 : decode cX9_ringed 9 = .ok (.iload_n 3, 1) := by decide +kernel
theorem dX9_ringed_10 : decode cX9_ringed 10 = .ok (.istore 4, 2) := by decide +kernel
theorem dX9_ringed_12 : decode cX9_ringed 12 = .ok (.iconst 0, 1) := by decide +kernel
theorem dX9_ringed_13 : decode cX9_ringed 13 = .ok (.istore 5, 2) := by decide +kernel
theorem dX9_ringed_15 : decode cX9_ringed 15 = .ok (.iconst 0, 1) := by decide +kernel
theorem dX9_ringed_16 : decode cX9_ringed 16 = .ok (.istore 6, 2) := by decide +kernel
theorem dX9_ringed_18 : decode cX9_ringed 18 = .ok (.iload 6, 2) := by decide +kernel
theorem dX9_ringed_20 : decode cX9_ringed 20 = .ok (.iconst 4, 1) := by decide +kernel
theorem dX9_ringed_21 : decode cX9_ringed 21 = .ok (.if_icmp .ge 45, 3) := by decide +kernel
theorem dX9_ringed_24 : decode cX9_ringed 24 = .ok (.iload_n 1, 1) := by decide +kernel
theorem dX9_ringed_25 : decode cX9_ringed 25 = .ok (.iload_n 3, 1) := by decide +kernel
theorem dX9_ringed_26 : decode cX9_ringed 26 = .ok (.ishr, 1) := by decide +kernel
theorem dX9_ringed_27 : decode cX9_ringed 27 = .ok (.iconst 1, 1) := by decide +kernel
theorem dX9_ringed_28 : decode cX9_ringed 28 = .ok (.iand, 1) := by decide +kernel
theorem dX9_ringed_29 : decode cX9_ringed 29 = .ok (.iconst 1, 1) := by decide +kernel
theorem dX9_ringed_30 : decode cX9_ringed 30 = .ok (.if_icmp .ne 36, 3) := by decide +kernel
theorem dX9_ringed_33 : decode cX9_ringed 33 = .ok (.aload_n 0, 1) := by decide +kernel
theorem dX9_ringed_34 : decode cX9_ringed 34 = .ok (.iload 4, 2) := by decide +kernel
theorem dX9_ringed_36 : decode cX9_ringed 36 = .ok (.iload_n 1, 1) := by decide +kernel
theorem dX9_ringed_37 : decode cX9_ringed 37 = .ok (.invokevirtual 268, 3) := by decide +kernel
theorem dX9_ringed_40 : decode cX9_ringed 40 = .ok (.istore 4, 2) := by decide +kernel
theorem dX9_ringed_42 : decode cX9_ringed 42 = .ok (.iload 5, 2) := by decide +kernel
theorem dX9_ringed_44 : decode cX9_ringed 44 = .ok (.ifCond .ne 9, 3) := by decide +kernel
theorem dX9_ringed_47 : decode cX9_ringed 47 = .ok (.iload 4, 2) := by decide +kernel
theorem dX9_ringed_49 : decode cX9_ringed 49 = .ok (.iload_n 3, 1) := by decide +kernel
theorem dX9_ringed_50 : decode cX9_ringed 50 = .ok (.if_icmp .ne 7, 3) := by decide +kernel
theorem dX9_ringed_53 : decode cX9_ringed 53 = .ok (.iconst 1, 1) := by decide +kernel
theorem dX9_ringed_54 : decode cX9_ringed 54 = .ok (.goto 4, 3) := by decide +kernel
theorem dX9_ringed_57 : decode cX9_ringed 57 = .ok (.iconst 0, 1) := by decide +kernel
theorem dX9_ringed_58 : decode cX9_ringed 58 = .ok (.istore 5, 2) := by decide +kernel
theorem dX9_ringed_60 : decode cX9_ringed 60 = .ok (.iinc 6 1, 3) := by decide +kernel
theorem dX9_ringed_63 : decode cX9_ringed 63 = .ok (.goto (-45), 3) := by decide +kernel
theorem dX9_ringed_66 : decode cX9_ringed 66 = .ok (.iload_n 2, 1) := by decide +kernel
theorem dX9_ringed_67 : decode cX9_ringed 67 = .ok (.iload 5, 2) := by decide +kernel
theorem dX9_ringed_69 : decode cX9_ringed 69 = .ok (.ifCond .eq 9, 3) := by decide +kernel
theorem dX9_ringed_72 : decode cX9_ringed 72 = .ok (.iconst 1, 1) := by decide +kernel
theorem dX9_ringed_73 : decode cX9_ringed 73 = .ok (.iload_n 3, 1) := by decide +kernel
theorem dX9_ringed_74 : decode cX9_ringed 74 = .ok (.ishl, 1) := by decide +kernel
theorem dX9_ringed_75 : decode cX9_ringed 75 = .ok (.goto 4, 3) := by decide +kernel
theorem dX9_ringed_78 : decode cX9_ringed 78 = .ok (.iconst 0, 1) := by decide +kernel
theorem dX9_ringed_79 : decode cX9_ringed 79 = .ok (.ior, 1) := by decide +kernel
theorem dX9_ringed_80 : decode cX9_ringed 80 = .ok (.istore_n 2, 1) := by decide +kernel
theorem dX9_ringed_81 : decode cX9_ringed 81 = .ok (.iinc 3 1, 3) := by decide +kernel
theorem dX9_ringed_84 : decode cX9_ringed 84 = .ok (.goto (-80), 3) := by decide +kernel
theorem dX9_ringed_87 : decode cX9_ringed 87 = .ok (.iload_n 2, 1) := by decide +kernel
theorem dX9_ringed_88 : decode cX9_ringed 88 = .ok (.ireturn, 1) := by decide +kernel
theorem dX9_deal_0 : decode cX9_deal 0 = .ok (.bipush 15, 2) := by decide +kernel
theorem dX9_deal_2 : decode cX9_deal 2 = .ok (.istore_n 1, 1) := by decide +kernel
theorem dX9_deal_3 : decode cX9_deal 3 = .ok (.iload_n 1, 1) := by decide +kernel
theorem dX9_deal_4 : decode cX9_deal 4 = .ok (.ifCond .eq 61, 3) := by decide +kernel
theorem dX9_deal_7 : decode cX9_deal 7 = .ok (.aload_n 0, 1) := by decide +kernel
theorem dX9_deal_8 : decode cX9_deal 8 = .ok (.iload_n 1, 1) := by decide +kernel
theorem dX9_deal_9 : decode cX9_deal 9 = .ok (.invokevirtual 271, 3) := by decide +kernel
theorem dX9_deal_12 : decode cX9_deal 12 = .ok (.istore_n 2, 1) := by decide +kernel
theorem dX9_deal_13 : decode cX9_deal 13 = .ok (.iconst 0, 1) := by decide +kernel
theorem dX9_deal_14 : decode cX9_deal 14 = .ok (.istore_n 3, 1) := by decide +kernel
theorem dX9_deal_15 : decode cX9_deal 15 = .ok (.iload_n 3, 1) := by decide +kernel
theorem dX9_deal_16 : decode cX9_deal 16 = .ok (.iconst 4, 1) := by decide +kernel
theorem dX9_deal_17 : decode cX9_deal 17 = .ok (.if_icmp .ge 39, 3) := by decide +kernel
theorem dX9_deal_20 : decode cX9_deal 20 = .ok (.aload_n 0, 1) := by decide +kernel
theorem dX9_deal_21 : decode cX9_deal 21 = .ok (.getfield 55, 3) := by decide +kernel
theorem dX9_deal_24 : decode cX9_deal 24 = .ok (.iload_n 3, 1) := by decide +kernel
theorem dX9_deal_25 : decode cX9_deal 25 = .ok (.iload_n 2, 1) := by decide +kernel
theorem dX9_deal_26 : decode cX9_deal 26 = .ok (.iload_n 3, 1) := by decide +kernel
theorem dX9_deal_27 : decode cX9_deal 27 = .ok (.ishr, 1) := by decide +kernel
theorem dX9_deal_28 : decode cX9_deal 28 = .ok (.iconst 1, 1) := by decide +kernel
theorem dX9_deal_29 : decode cX9_deal 29 = .ok (.iand, 1) := by decide +kernel
theorem dX9_deal_30 : decode cX9_deal 30 = .ok (.iconst 1, 1) := by decide +kernel
theorem dX9_deal_31 : decode cX9_deal 31 = .ok (.if_icmp .ne 12, 3) := by decide +kernel
theorem dX9_deal_34 : decode cX9_deal 34 = .ok (.aload_n 0, 1) := by decide +kernel
theorem dX9_deal_35 : decode cX9_deal 35 = .ok (.iload_n 3, 1) := by decide +kernel
theorem dX9_deal_36 : decode cX9_deal 36 = .ok (.iload_n 1, 1) := by decide +kernel
theorem dX9_deal_37 : decode cX9_deal 37 = .ok (.invokevirtual 268, 3) := by decide +kernel
theorem dX9_deal_40 : decode cX9_deal 40 = .ok (.goto 9, 3) := by decide +kernel
theorem dX9_deal_43 : decode cX9_deal 43 = .ok (.aload_n 0, 1) := by decide +kernel
theorem dX9_deal_44 : decode cX9_deal 44 = .ok (.getfield 55, 3) := by decide +kernel
theorem dX9_deal_47 : decode cX9_deal 47 = .ok (.iload_n 3, 1) := by decide +kernel
theorem dX9_deal_48 : decode cX9_deal 48 = .ok (.iaload, 1) := by decide +kernel
theorem dX9_deal_49 : decode cX9_deal 49 = .ok (.iastore, 1) := by decide +kernel
theorem dX9_deal_50 : decode cX9_deal 50 = .ok (.iinc 3 1, 3) := by decide +kernel
theorem dX9_deal_53 : decode cX9_deal 53 = .ok (.goto (-38), 3) := by decide +kernel
theorem dX9_deal_56 : decode cX9_deal 56 = .ok (.iload_n 1, 1) := by decide +kernel
theorem dX9_deal_57 : decode cX9_deal 57 = .ok (.iload_n 2, 1) := by decide +kernel
theorem dX9_deal_58 : decode cX9_deal 58 = .ok (.iconst (-1), 1) := by decide +kernel
theorem dX9_deal_59 : decode cX9_deal 59 = .ok (.ixor, 1) := by decide +kernel
theorem dX9_deal_60 : decode cX9_deal 60 = .ok (.iand, 1) := by decide +kernel
theorem dX9_deal_61 : decode cX9_deal 61 = .ok (.istore_n 1, 1) := by decide +kernel
theorem dX9_deal_62 : decode cX9_deal 62 = .ok (.goto (-59), 3) := by decide +kernel
theorem dX9_deal_65 : decode cX9_deal 65 = .ok (.return_, 1) := by decide +kernel
theorem dX9_rings_0 : decode cX9_rings 0 = .ok (.aload_n 0, 1) := by decide +kernel
theorem dX9_rings_1 : decode cX9_rings 1 = .ok (.iconst 0, 1) := by decide +kernel
theorem dX9_rings_2 : decode cX9_rings 2 = .ok (.iload_n 1, 1) := by decide +kernel
theorem dX9_rings_3 : decode cX9_rings 3 = .ok (.invokevirtual 274, 3) := by decide +kernel
theorem dX9_rings_6 : decode cX9_rings 6 = .ok (.ifCond .eq 35, 3) := by decide +kernel
theorem dX9_rings_9 : decode cX9_rings 9 = .ok (.aload_n 0, 1) := by decide +kernel
theorem dX9_rings_10 : decode cX9_rings 10 = .ok (.iconst 1, 1) := by decide +kernel
theorem dX9_rings_11 : decode cX9_rings 11 = .ok (.iload_n 2, 1) := by decide +kernel
theorem dX9_rings_12 : decode cX9_rings 12 = .ok (.invokevirtual 274, 3) := by decide +kernel
theorem dX9_rings_15 : decode cX9_rings 15 = .ok (.ifCond .eq 26, 3) := by decide +kernel
theorem dX9_rings_18 : decode cX9_rings 18 = .ok (.aload_n 0, 1) := by decide +kernel
theorem dX9_rings_19 : decode cX9_rings 19 = .ok (.iconst 2, 1) := by decide +kernel
theorem dX9_rings_20 : decode cX9_rings 20 = .ok (.iload_n 3, 1) := by decide +kernel
theorem dX9_rings_21 : decode cX9_rings 21 = .ok (.invokevirtual 274, 3) := by decide +kernel
theorem dX9_rings_24 : decode cX9_rings 24 = .ok (.ifCond .eq 17, 3) := by decide +kernel
theorem dX9_rings_27 : decode cX9_rings 27 = .ok (.aload_n 0, 1) := by decide +kernel
theorem dX9_rings_28 : decode cX9_rings 28 = .ok (.iconst 3, 1) := by decide +kernel
theorem dX9_rings_29 : decode cX9_rings 29 = .ok (.iload 4, 2) := by decide +kernel
theorem dX9_rings_31 : decode cX9_rings 31 = .ok (.invokevirtual 274, 3) := by decide +kernel
theorem dX9_rings_34 : decode cX9_rings 34 = .ok (.ifCond .eq 7, 3) := by decide +kernel
theorem dX9_rings_37 : decode cX9_rings 37 = .ok (.iconst 1, 1) := by decide +kernel
theorem dX9_rings_38 : decode cX9_rings 38 = .ok (.goto 4, 3) := by decide +kernel
theorem dX9_rings_41 : decode cX9_rings 41 = .ok (.iconst 0, 1) := by decide +kernel
theorem dX9_rings_42 : decode cX9_rings 42 = .ok (.istore 6, 2) := by decide +kernel
theorem dX9_rings_44 : decode cX9_rings 44 = .ok (.iload 6, 2) := by decide +kernel
theorem dX9_rings_46 : decode cX9_rings 46 = .ok (.ifCond .eq 14, 3) := by decide +kernel
theorem dX9_rings_49 : decode cX9_rings 49 = .ok (.iload 5, 2) := by decide +kernel
theorem dX9_rings_51 : decode cX9_rings 51 = .ok (.i2l, 1) := by decide +kernel
theorem dX9_rings_52 : decode cX9_rings 52 = .ok (.lconst 0, 1) := by decide +kernel
theorem dX9_rings_53 : decode cX9_rings 53 = .ok (.lconst 1, 1) := by decide +kernel
theorem dX9_rings_54 : decode cX9_rings 54 = .ok (.invokestatic 77, 3) := by decide +kernel
theorem dX9_rings_57 : decode cX9_rings 57 = .ok (.ifCond .ne 6, 3) := by decide +kernel
theorem dX9_rings_60 : decode cX9_rings 60 = .ok (.bipush (-2), 2) := by decide +kernel
theorem dX9_rings_62 : decode cX9_rings 62 = .ok (.ireturn, 1) := by decide +kernel
theorem dX9_rings_63 : decode cX9_rings 63 = .ok (.aload_n 0, 1) := by decide +kernel
theorem dX9_rings_64 : decode cX9_rings 64 = .ok (.invokevirtual 277, 3) := by decide +kernel
theorem dX9_rings_67 : decode cX9_rings 67 = .ok (.iconst 0, 1) := by decide +kernel
theorem dX9_rings_68 : decode cX9_rings 68 = .ok (.istore 7, 2) := by decide +kernel
theorem dX9_rings_70 : decode cX9_rings 70 = .ok (.iconst 0, 1) := by decide +kernel
theorem dX9_rings_71 : decode cX9_rings 71 = .ok (.istore 8, 2) := by decide +kernel
theorem dX9_rings_73 : decode cX9_rings 73 = .ok (.iconst 0, 1) := by decide +kernel
theorem dX9_rings_74 : decode cX9_rings 74 = .ok (.istore 9, 2) := by decide +kernel
theorem dX9_rings_76 : decode cX9_rings 76 = .ok (.iload 9, 2) := by decide +kernel
theorem dX9_rings_78 : decode cX9_rings 78 = .ok (.iconst 4, 1) := by decide +kernel
theorem dX9_rings_79 : decode cX9_rings 79 = .ok (.if_icmp .ge 46, 3) := by decide +kernel
theorem dX9_rings_82 : decode cX9_rings 82 = .ok (.iload 7, 2) := by decide +kernel
theorem dX9_rings_84 : decode cX9_rings 84 = .ok (.aload_n 0, 1) := by decide +kernel
theorem dX9_rings_85 : decode cX9_rings 85 = .ok (.getfield 55, 3) := by decide +kernel
theorem dX9_rings_88 : decode cX9_rings 88 = .ok (.iload 9, 2) := by decide +kernel
theorem dX9_rings_90 : decode cX9_rings 90 = .ok (.iaload, 1) := by decide +kernel
theorem dX9_rings_91 : decode cX9_rings 91 = .ok (.iload 9, 2) := by decide +kernel
theorem dX9_rings_93 : decode cX9_rings 93 = .ok (.if_icmp .ne 7, 3) := by decide +kernel
theorem dX9_rings_96 : decode cX9_rings 96 = .ok (.iconst 1, 1) := by decide +kernel
theorem dX9_rings_97 : decode cX9_rings 97 = .ok (.goto 4, 3) := by decide +kernel
theorem dX9_rings_100 : decode cX9_rings 100 = .ok (.iconst 0, 1) := by decide +kernel
theorem dX9_rings_101 : decode cX9_rings 101 = .ok (.iadd, 1) := by decide +kernel
theorem dX9_rings_102 : decode cX9_rings 102 = .ok (.istore 7, 2) := by decide +kernel
theorem dX9_rings_104 : decode cX9_rings 104 = .ok (.bipush 10, 2) := by decide +kernel
theorem dX9_rings_106 : decode cX9_rings 106 = .ok (.iload 8, 2) := by decide +kernel
theorem dX9_rings_108 : decode cX9_rings 108 = .ok (.imul, 1) := by decide +kernel
theorem dX9_rings_109 : decode cX9_rings 109 = .ok (.aload_n 0, 1) := by decide +kernel
theorem dX9_rings_110 : decode cX9_rings 110 = .ok (.getfield 55, 3) := by decide +kernel
theorem dX9_rings_113 : decode cX9_rings 113 = .ok (.iload 9, 2) := by decide +kernel
theorem dX9_rings_115 : decode cX9_rings 115 = .ok (.iaload, 1) := by decide +kernel
theorem dX9_rings_116 : decode cX9_rings 116 = .ok (.iadd, 1) := by decide +kernel
theorem dX9_rings_117 : decode cX9_rings 117 = .ok (.istore 8, 2) := by decide +kernel
theorem dX9_rings_119 : decode cX9_rings 119 = .ok (.iinc 9 1, 3) := by decide +kernel
theorem dX9_rings_122 : decode cX9_rings 122 = .ok (.goto (-46), 3) := by decide +kernel
theorem dX9_rings_125 : decode cX9_rings 125 = .ok (.iload 5, 2) := by decide +kernel
theorem dX9_rings_127 : decode cX9_rings 127 = .ok (.ifCond .ne 8, 3) := by decide +kernel
theorem dX9_rings_130 : decode cX9_rings 130 = .ok (.iload 8, 2) := by decide +kernel
theorem dX9_rings_132 : decode cX9_rings 132 = .ok (.goto 5, 3) := by decide +kernel
theorem dX9_rings_135 : decode cX9_rings 135 = .ok (.iload 7, 2) := by decide +kernel
theorem dX9_rings_137 : decode cX9_rings 137 = .ok (.ireturn, 1) := by decide +kernel
theorem dX9_seen_0 : decode cX9_seen 0 = .ok (.iload_n 1, 1) := by decide +kernel
theorem dX9_seen_1 : decode cX9_seen 1 = .ok (.i2l, 1) := by decide +kernel
theorem dX9_seen_2 : decode cX9_seen 2 = .ok (.lconst 1, 1) := by decide +kernel
theorem dX9_seen_3 : decode cX9_seen 3 = .ok (.ldc2_w 112, 3) := by decide +kernel
theorem dX9_seen_6 : decode cX9_seen 6 = .ok (.invokestatic 77, 3) := by decide +kernel
theorem dX9_seen_9 : decode cX9_seen 9 = .ok (.ifCond .eq 15, 3) := by decide +kernel
theorem dX9_seen_12 : decode cX9_seen 12 = .ok (.iload_n 2, 1) := by decide +kernel
theorem dX9_seen_13 : decode cX9_seen 13 = .ok (.i2l, 1) := by decide +kernel
theorem dX9_seen_14 : decode cX9_seen 14 = .ok (.lconst 0, 1) := by decide +kernel
theorem dX9_seen_15 : decode cX9_seen 15 = .ok (.ldc2_w 280, 3) := by decide +kernel
theorem dX9_seen_18 : decode cX9_seen 18 = .ok (.invokestatic 77, 3) := by decide +kernel
theorem dX9_seen_21 : decode cX9_seen 21 = .ok (.ifCond .ne 6, 3) := by decide +kernel
theorem dX9_seen_24 : decode cX9_seen 24 = .ok (.bipush (-2), 2) := by decide +kernel
theorem dX9_seen_26 : decode cX9_seen 26 = .ok (.ireturn, 1) := by decide +kernel
theorem dX9_seen_27 : decode cX9_seen 27 = .ok (.aload_n 0, 1) := by decide +kernel
theorem dX9_seen_28 : decode cX9_seen 28 = .ok (.getfield 282, 3) := by decide +kernel
theorem dX9_seen_31 : decode cX9_seen 31 = .ok (.bipush 8, 2) := by decide +kernel
theorem dX9_seen_33 : decode cX9_seen 33 = .ok (.if_icmp .ne 6, 3) := by decide +kernel
theorem dX9_seen_36 : decode cX9_seen 36 = .ok (.bipush (-4), 2) := by decide +kernel
theorem dX9_seen_38 : decode cX9_seen 38 = .ok (.ireturn, 1) := by decide +kernel
theorem dX9_seen_39 : decode cX9_seen 39 = .ok (.aload_n 0, 1) := by decide +kernel
theorem dX9_seen_40 : decode cX9_seen 40 = .ok (.getfield 25, 3) := by decide +kernel
theorem dX9_seen_43 : decode cX9_seen 43 = .ok (.aload_n 0, 1) := by decide +kernel
theorem dX9_seen_44 : decode cX9_seen 44 = .ok (.getfield 282, 3) := by decide +kernel
theorem dX9_seen_47 : decode cX9_seen 47 = .ok (.iload_n 1, 1) := by decide +kernel
theorem dX9_seen_48 : decode cX9_seen 48 = .ok (.iastore, 1) := by decide +kernel
theorem dX9_seen_49 : decode cX9_seen 49 = .ok (.aload_n 0, 1) := by decide +kernel
theorem dX9_seen_50 : decode cX9_seen 50 = .ok (.getfield 28, 3) := by decide +kernel
theorem dX9_seen_53 : decode cX9_seen 53 = .ok (.aload_n 0, 1) := by decide +kernel
theorem dX9_seen_54 : decode cX9_seen 54 = .ok (.getfield 282, 3) := by decide +kernel
theorem dX9_seen_57 : decode cX9_seen 57 = .ok (.iload_n 2, 1) := by decide +kernel
theorem dX9_seen_58 : decode cX9_seen 58 = .ok (.iastore, 1) := by decide +kernel
theorem dX9_seen_59 : decode cX9_seen 59 = .ok (.aload_n 0, 1) := by decide +kernel
theorem dX9_seen_60 : decode cX9_seen 60 = .ok (.dup, 1) := by decide +kernel
theorem dX9_seen_61 : decode cX9_seen 61 = .ok (.getfield 282, 3) := by decide +kernel
theorem dX9_seen_64 : decode cX9_seen 64 = .ok (.iconst 1, 1) := by decide +kernel
theorem dX9_seen_65 : decode cX9_seen 65 = .ok (.iadd, 1) := by decide +kernel
theorem dX9_seen_66 : decode cX9_seen 66 = .ok (.putfield 282, 3) := by decide +kernel
theorem dX9_seen_69 : decode cX9_seen 69 = .ok (.aload_n 0, 1) := by decide +kernel
theorem dX9_seen_70 : decode cX9_seen 70 = .ok (.getfield 282, 3) := by decide +kernel
theorem dX9_seen_73 : decode cX9_seen 73 = .ok (.ireturn, 1) := by decide +kernel
theorem dX9_forget_0 : decode cX9_forget 0 = .ok (.aload_n 0, 1) := by decide +kernel
theorem dX9_forget_1 : decode cX9_forget 1 = .ok (.getfield 282, 3) := by decide +kernel
theorem dX9_forget_4 : decode cX9_forget 4 = .ok (.istore_n 1, 1) := by decide +kernel
theorem dX9_forget_5 : decode cX9_forget 5 = .ok (.aload_n 0, 1) := by decide +kernel
theorem dX9_forget_6 : decode cX9_forget 6 = .ok (.iconst 0, 1) := by decide +kernel
theorem dX9_forget_7 : decode cX9_forget 7 = .ok (.putfield 282, 3) := by decide +kernel
theorem dX9_forget_10 : decode cX9_forget 10 = .ok (.iload_n 1, 1) := by decide +kernel
theorem dX9_forget_11 : decode cX9_forget 11 = .ok (.ireturn, 1) := by decide +kernel
theorem dX9_together_0 : decode cX9_together 0 = .ok (.iload_n 0, 1) := by decide +kernel
theorem dX9_together_1 : decode cX9_together 1 = .ok (.bipush 10, 2) := by decide +kernel
theorem dX9_together_3 : decode cX9_together 3 = .ok (.idiv, 1) := by decide +kernel
theorem dX9_together_4 : decode cX9_together 4 = .ok (.istore_n 2, 1) := by decide +kernel
theorem dX9_together_5 : decode cX9_together 5 = .ok (.iload_n 0, 1) := by decide +kernel
theorem dX9_together_6 : decode cX9_together 6 = .ok (.bipush 10, 2) := by decide +kernel
theorem dX9_together_8 : decode cX9_together 8 = .ok (.irem, 1) := by decide +kernel
theorem dX9_together_9 : decode cX9_together 9 = .ok (.istore_n 3, 1) := by decide +kernel
theorem dX9_together_10 : decode cX9_together 10 = .ok (.iload_n 2, 1) := by decide +kernel
theorem dX9_together_11 : decode cX9_together 11 = .ok (.iload_n 1, 1) := by decide +kernel
theorem dX9_together_12 : decode cX9_together 12 = .ok (.if_icmp .ge 7, 3) := by decide +kernel
theorem dX9_together_15 : decode cX9_together 15 = .ok (.iload_n 2, 1) := by decide +kernel
theorem dX9_together_16 : decode cX9_together 16 = .ok (.goto 4, 3) := by decide +kernel
theorem dX9_together_19 : decode cX9_together 19 = .ok (.iload_n 1, 1) := by decide +kernel
theorem dX9_together_20 : decode cX9_together 20 = .ok (.iload_n 3, 1) := by decide +kernel
theorem dX9_together_21 : decode cX9_together 21 = .ok (.iload_n 1, 1) := by decide +kernel
theorem dX9_together_22 : decode cX9_together 22 = .ok (.if_icmp .ge 7, 3) := by decide +kernel
theorem dX9_together_25 : decode cX9_together 25 = .ok (.iload_n 3, 1) := by decide +kernel
theorem dX9_together_26 : decode cX9_together 26 = .ok (.goto 4, 3) := by decide +kernel
theorem dX9_together_29 : decode cX9_together 29 = .ok (.iload_n 1, 1) := by decide +kernel
theorem dX9_together_30 : decode cX9_together 30 = .ok (.iadd, 1) := by decide +kernel
theorem dX9_together_31 : decode cX9_together 31 = .ok (.ireturn, 1) := by decide +kernel
theorem dX9_fits_0 : decode cX9_fits 0 = .ok (.iconst 1, 1) := by decide +kernel
theorem dX9_fits_1 : decode cX9_fits 1 = .ok (.istore_n 2, 1) := by decide +kernel
theorem dX9_fits_2 : decode cX9_fits 2 = .ok (.iconst 0, 1) := by decide +kernel
theorem dX9_fits_3 : decode cX9_fits 3 = .ok (.istore_n 3, 1) := by decide +kernel
theorem dX9_fits_4 : decode cX9_fits 4 = .ok (.iload_n 3, 1) := by decide +kernel
theorem dX9_fits_5 : decode cX9_fits 5 = .ok (.aload_n 0, 1) := by decide +kernel
theorem dX9_fits_6 : decode cX9_fits 6 = .ok (.getfield 282, 3) := by decide +kernel
theorem dX9_fits_9 : decode cX9_fits 9 = .ok (.if_icmp .ge 38, 3) := by decide +kernel
theorem dX9_fits_12 : decode cX9_fits 12 = .ok (.iload_n 2, 1) := by decide +kernel
theorem dX9_fits_13 : decode cX9_fits 13 = .ok (.ifCond .eq 26, 3) := by decide +kernel
theorem dX9_fits_16 : decode cX9_fits 16 = .ok (.iload_n 1, 1) := by decide +kernel
theorem dX9_fits_17 : decode cX9_fits 17 = .ok (.aload_n 0, 1) := by decide +kernel
theorem dX9_fits_18 : decode cX9_fits 18 = .ok (.getfield 25, 3) := by decide +kernel
theorem dX9_fits_21 : decode cX9_fits 21 = .ok (.iload_n 3, 1) := by decide +kernel
theorem dX9_fits_22 : decode cX9_fits 22 = .ok (.iaload, 1) := by decide +kernel
theorem dX9_fits_23 : decode cX9_fits 23 = .ok (.invokestatic 285, 3) := by decide +kernel
theorem dX9_fits_26 : decode cX9_fits 26 = .ok (.aload_n 0, 1) := by decide +kernel
theorem dX9_fits_27 : decode cX9_fits 27 = .ok (.getfield 28, 3) := by decide +kernel
theorem dX9_fits_30 : decode cX9_fits 30 = .ok (.iload_n 3, 1) := by decide +kernel
theorem dX9_fits_31 : decode cX9_fits 31 = .ok (.iaload, 1) := by decide +kernel
theorem dX9_fits_32 : decode cX9_fits 32 = .ok (.if_icmp .ne 7, 3) := by decide +kernel
theorem dX9_fits_35 : decode cX9_fits 35 = .ok (.iconst 1, 1) := by decide +kernel
theorem dX9_fits_36 : decode cX9_fits 36 = .ok (.goto 4, 3) := by decide +kernel
theorem dX9_fits_39 : decode cX9_fits 39 = .ok (.iconst 0, 1) := by decide +kernel
theorem dX9_fits_40 : decode cX9_fits 40 = .ok (.istore_n 2, 1) := by decide +kernel
theorem dX9_fits_41 : decode cX9_fits 41 = .ok (.iinc 3 1, 3) := by decide +kernel
theorem dX9_fits_44 : decode cX9_fits 44 = .ok (.goto (-40), 3) := by decide +kernel
theorem dX9_fits_47 : decode cX9_fits 47 = .ok (.iload_n 2, 1) := by decide +kernel
theorem dX9_fits_48 : decode cX9_fits 48 = .ok (.ireturn, 1) := by decide +kernel
theorem dX9_holds_0 : decode cX9_holds 0 = .ok (.iconst 0, 1) := by decide +kernel
theorem dX9_holds_1 : decode cX9_holds 1 = .ok (.istore_n 2, 1) := by decide +kernel
theorem dX9_holds_2 : decode cX9_holds 2 = .ok (.iconst 0, 1) := by decide +kernel
theorem dX9_holds_3 : decode cX9_holds 3 = .ok (.istore_n 3, 1) := by decide +kernel
theorem dX9_holds_4 : decode cX9_holds 4 = .ok (.iload_n 3, 1) := by decide +kernel
theorem dX9_holds_5 : decode cX9_holds 5 = .ok (.bipush 100, 2) := by decide +kernel
theorem dX9_holds_7 : decode cX9_holds 7 = .ok (.if_icmp .ge 27, 3) := by decide +kernel
theorem dX9_holds_10 : decode cX9_holds 10 = .ok (.aload_n 0, 1) := by decide +kernel
theorem dX9_holds_11 : decode cX9_holds 11 = .ok (.iload_n 3, 1) := by decide +kernel
theorem dX9_holds_12 : decode cX9_holds 12 = .ok (.invokevirtual 288, 3) := by decide +kernel
theorem dX9_holds_15 : decode cX9_holds 15 = .ok (.ifCond .eq 13, 3) := by decide +kernel
theorem dX9_holds_18 : decode cX9_holds 18 = .ok (.iload_n 2, 1) := by decide +kernel
theorem dX9_holds_19 : decode cX9_holds 19 = .ok (.iload_n 1, 1) := by decide +kernel
theorem dX9_holds_20 : decode cX9_holds 20 = .ok (.if_icmp .ne 5, 3) := by decide +kernel
theorem dX9_holds_23 : decode cX9_holds 23 = .ok (.iload_n 3, 1) := by decide +kernel
theorem dX9_holds_24 : decode cX9_holds 24 = .ok (.ireturn, 1) := by decide +kernel
theorem dX9_holds_25 : decode cX9_holds 25 = .ok (.iinc 2 1, 3) := by decide +kernel
theorem dX9_holds_28 : decode cX9_holds 28 = .ok (.iinc 3 1, 3) := by decide +kernel
theorem dX9_holds_31 : decode cX9_holds 31 = .ok (.goto (-27), 3) := by decide +kernel
theorem dX9_holds_34 : decode cX9_holds 34 = .ok (.iload_n 1, 1) := by decide +kernel
theorem dX9_holds_35 : decode cX9_holds 35 = .ok (.iconst (-1), 1) := by decide +kernel
theorem dX9_holds_36 : decode cX9_holds 36 = .ok (.if_icmp .ne 7, 3) := by decide +kernel
theorem dX9_holds_39 : decode cX9_holds 39 = .ok (.iload_n 2, 1) := by decide +kernel
theorem dX9_holds_40 : decode cX9_holds 40 = .ok (.goto 5, 3) := by decide +kernel
theorem dX9_holds_43 : decode cX9_holds 43 = .ok (.bipush (-6), 2) := by decide +kernel
theorem dX9_holds_45 : decode cX9_holds 45 = .ok (.ireturn, 1) := by decide +kernel
theorem dX9_mostLeft_0 : decode cX9_mostLeft 0 = .ok (.iconst 0, 1) := by decide +kernel
theorem dX9_mostLeft_1 : decode cX9_mostLeft 1 = .ok (.istore_n 2, 1) := by decide +kernel
theorem dX9_mostLeft_2 : decode cX9_mostLeft 2 = .ok (.iconst 0, 1) := by decide +kernel
theorem dX9_mostLeft_3 : decode cX9_mostLeft 3 = .ok (.istore_n 3, 1) := by decide +kernel
theorem dX9_mostLeft_4 : decode cX9_mostLeft 4 = .ok (.iload_n 3, 1) := by decide +kernel
theorem dX9_mostLeft_5 : decode cX9_mostLeft 5 = .ok (.bipush 19, 2) := by decide +kernel
theorem dX9_mostLeft_7 : decode cX9_mostLeft 7 = .ok (.if_icmp .ge 16, 3) := by decide +kernel
theorem dX9_mostLeft_10 : decode cX9_mostLeft 10 = .ok (.aload_n 0, 1) := by decide +kernel
theorem dX9_mostLeft_11 : decode cX9_mostLeft 11 = .ok (.getfield 58, 3) := by decide +kernel
theorem dX9_mostLeft_14 : decode cX9_mostLeft 14 = .ok (.iload_n 3, 1) := by decide +kernel
theorem dX9_mostLeft_15 : decode cX9_mostLeft 15 = .ok (.iconst 0, 1) := by decide +kernel
theorem dX9_mostLeft_16 : decode cX9_mostLeft 16 = .ok (.iastore, 1) := by decide +kernel
theorem dX9_mostLeft_17 : decode cX9_mostLeft 17 = .ok (.iinc 3 1, 3) := by decide +kernel
theorem dX9_mostLeft_20 : decode cX9_mostLeft 20 = .ok (.goto (-16), 3) := by decide +kernel
theorem dX9_mostLeft_23 : decode cX9_mostLeft 23 = .ok (.iconst 0, 1) := by decide +kernel
theorem dX9_mostLeft_24 : decode cX9_mostLeft 24 = .ok (.istore_n 3, 1) := by decide +kernel
theorem dX9_mostLeft_25 : decode cX9_mostLeft 25 = .ok (.iload_n 3, 1) := by decide +kernel
theorem dX9_mostLeft_26 : decode cX9_mostLeft 26 = .ok (.bipush 100, 2) := by decide +kernel
theorem dX9_mostLeft_28 : decode cX9_mostLeft 28 = .ok (.if_icmp .ge 58, 3) := by decide +kernel
theorem dX9_mostLeft_31 : decode cX9_mostLeft 31 = .ok (.aload_n 0, 1) := by decide +kernel
theorem dX9_mostLeft_32 : decode cX9_mostLeft 32 = .ok (.iload_n 3, 1) := by decide +kernel
theorem dX9_mostLeft_33 : decode cX9_mostLeft 33 = .ok (.invokevirtual 288, 3) := by decide +kernel
theorem dX9_mostLeft_36 : decode cX9_mostLeft 36 = .ok (.ifCond .eq 44, 3) := by decide +kernel
theorem dX9_mostLeft_39 : decode cX9_mostLeft 39 = .ok (.iload_n 3, 1) := by decide +kernel
theorem dX9_mostLeft_40 : decode cX9_mostLeft 40 = .ok (.iload_n 1, 1) := by decide +kernel
theorem dX9_mostLeft_41 : decode cX9_mostLeft 41 = .ok (.invokestatic 285, 3) := by decide +kernel
theorem dX9_mostLeft_44 : decode cX9_mostLeft 44 = .ok (.istore 4, 2) := by decide +kernel
theorem dX9_mostLeft_46 : decode cX9_mostLeft 46 = .ok (.aload_n 0, 1) := by decide +kernel
theorem dX9_mostLeft_47 : decode cX9_mostLeft 47 = .ok (.getfield 58, 3) := by decide +kernel
theorem dX9_mostLeft_50 : decode cX9_mostLeft 50 = .ok (.iload 4, 2) := by decide +kernel
theorem dX9_mostLeft_52 : decode cX9_mostLeft 52 = .ok (.dup2, 1) := by decide +kernel
theorem dX9_mostLeft_53 : decode cX9_mostLeft 53 = .ok (.iaload, 1) := by decide +kernel
theorem dX9_mostLeft_54 : decode cX9_mostLeft 54 = .ok (.iconst 1, 1) := by decide +kernel
theorem dX9_mostLeft_55 : decode cX9_mostLeft 55 = .ok (.iadd, 1) := by decide +kernel
theorem dX9_mostLeft_56 : decode cX9_mostLeft 56 = .ok (.iastore, 1) := by decide +kernel
theorem dX9_mostLeft_57 : decode cX9_mostLeft 57 = .ok (.aload_n 0, 1) := by decide +kernel
theorem dX9_mostLeft_58 : decode cX9_mostLeft 58 = .ok (.getfield 58, 3) := by decide +kernel
theorem dX9_mostLeft_61 : decode cX9_mostLeft 61 = .ok (.iload 4, 2) := by decide +kernel
theorem dX9_mostLeft_63 : decode cX9_mostLeft 63 = .ok (.iaload, 1) := by decide +kernel
theorem dX9_mostLeft_64 : decode cX9_mostLeft 64 = .ok (.iload_n 2, 1) := by decide +kernel
theorem dX9_mostLeft_65 : decode cX9_mostLeft 65 = .ok (.if_icmp .le 13, 3) := by decide +kernel
theorem dX9_mostLeft_68 : decode cX9_mostLeft 68 = .ok (.aload_n 0, 1) := by decide +kernel
theorem dX9_mostLeft_69 : decode cX9_mostLeft 69 = .ok (.getfield 58, 3) := by decide +kernel
theorem dX9_mostLeft_72 : decode cX9_mostLeft 72 = .ok (.iload 4, 2) := by decide +kernel
theorem dX9_mostLeft_74 : decode cX9_mostLeft 74 = .ok (.iaload, 1) := by decide +kernel
theorem dX9_mostLeft_75 : decode cX9_mostLeft 75 = .ok (.goto 4, 3) := by decide +kernel
theorem dX9_mostLeft_78 : decode cX9_mostLeft 78 = .ok (.iload_n 2, 1) := by decide +kernel
theorem dX9_mostLeft_79 : decode cX9_mostLeft 79 = .ok (.istore_n 2, 1) := by decide +kernel
theorem dX9_mostLeft_80 : decode cX9_mostLeft 80 = .ok (.iinc 3 1, 3) := by decide +kernel
theorem dX9_mostLeft_83 : decode cX9_mostLeft 83 = .ok (.goto (-58), 3) := by decide +kernel
theorem dX9_mostLeft_86 : decode cX9_mostLeft 86 = .ok (.iload_n 2, 1) := by decide +kernel
theorem dX9_mostLeft_87 : decode cX9_mostLeft 87 = .ok (.ireturn, 1) := by decide +kernel
theorem dX9_ask_0 : decode cX9_ask 0 = .ok (.iload_n 1, 1) := by decide +kernel
theorem dX9_ask_1 : decode cX9_ask 1 = .ok (.i2l, 1) := by decide +kernel
theorem dX9_ask_2 : decode cX9_ask 2 = .ok (.lconst 0, 1) := by decide +kernel
theorem dX9_ask_3 : decode cX9_ask 3 = .ok (.lconst 1, 1) := by decide +kernel
theorem dX9_ask_4 : decode cX9_ask 4 = .ok (.invokestatic 77, 3) := by decide +kernel
theorem dX9_ask_7 : decode cX9_ask 7 = .ok (.ifCond .ne 6, 3) := by decide +kernel
theorem dX9_ask_10 : decode cX9_ask 10 = .ok (.bipush (-2), 2) := by decide +kernel
theorem dX9_ask_12 : decode cX9_ask 12 = .ok (.ireturn, 1) := by decide +kernel
theorem dX9_ask_13 : decode cX9_ask 13 = .ok (.iconst 1, 1) := by decide +kernel
theorem dX9_ask_14 : decode cX9_ask 14 = .ok (.istore_n 2, 1) := by decide +kernel
theorem dX9_ask_15 : decode cX9_ask 15 = .ok (.aload_n 0, 1) := by decide +kernel
theorem dX9_ask_16 : decode cX9_ask 16 = .ok (.iconst 1, 1) := by decide +kernel
theorem dX9_ask_17 : decode cX9_ask 17 = .ok (.invokevirtual 291, 3) := by decide +kernel
theorem dX9_ask_20 : decode cX9_ask 20 = .ok (.istore_n 3, 1) := by decide +kernel
theorem dX9_ask_21 : decode cX9_ask 21 = .ok (.iconst 2, 1) := by decide +kernel
theorem dX9_ask_22 : decode cX9_ask 22 = .ok (.istore 4, 2) := by decide +kernel
theorem dX9_ask_24 : decode cX9_ask 24 = .ok (.iload 4, 2) := by decide +kernel
theorem dX9_ask_26 : decode cX9_ask 26 = .ok (.bipush 9, 2) := by decide +kernel
theorem dX9_ask_28 : decode cX9_ask 28 = .ok (.if_icmp .gt 43, 3) := by decide +kernel
theorem dX9_ask_31 : decode cX9_ask 31 = .ok (.aload_n 0, 1) := by decide +kernel
theorem dX9_ask_32 : decode cX9_ask 32 = .ok (.iload 4, 2) := by decide +kernel
theorem dX9_ask_34 : decode cX9_ask 34 = .ok (.invokevirtual 291, 3) := by decide +kernel
theorem dX9_ask_37 : decode cX9_ask 37 = .ok (.istore 5, 2) := by decide +kernel
theorem dX9_ask_39 : decode cX9_ask 39 = .ok (.iload 5, 2) := by decide +kernel
theorem dX9_ask_41 : decode cX9_ask 41 = .ok (.iload_n 3, 1) := by decide +kernel
theorem dX9_ask_42 : decode cX9_ask 42 = .ok (.if_icmp .ge 8, 3) := by decide +kernel
theorem dX9_ask_45 : decode cX9_ask 45 = .ok (.iload 4, 2) := by decide +kernel
theorem dX9_ask_47 : decode cX9_ask 47 = .ok (.goto 4, 3) := by decide +kernel
theorem dX9_ask_50 : decode cX9_ask 50 = .ok (.iload_n 2, 1) := by decide +kernel
theorem dX9_ask_51 : decode cX9_ask 51 = .ok (.istore_n 2, 1) := by decide +kernel
theorem dX9_ask_52 : decode cX9_ask 52 = .ok (.iload 5, 2) := by decide +kernel
theorem dX9_ask_54 : decode cX9_ask 54 = .ok (.iload_n 3, 1) := by decide +kernel
theorem dX9_ask_55 : decode cX9_ask 55 = .ok (.if_icmp .ge 8, 3) := by decide +kernel
theorem dX9_ask_58 : decode cX9_ask 58 = .ok (.iload 5, 2) := by decide +kernel
theorem dX9_ask_60 : decode cX9_ask 60 = .ok (.goto 4, 3) := by decide +kernel
theorem dX9_ask_63 : decode cX9_ask 63 = .ok (.iload_n 3, 1) := by decide +kernel
theorem dX9_ask_64 : decode cX9_ask 64 = .ok (.istore_n 3, 1) := by decide +kernel
theorem dX9_ask_65 : decode cX9_ask 65 = .ok (.iinc 4 1, 3) := by decide +kernel
theorem dX9_ask_68 : decode cX9_ask 68 = .ok (.goto (-44), 3) := by decide +kernel
theorem dX9_ask_71 : decode cX9_ask 71 = .ok (.iload_n 3, 1) := by decide +kernel
theorem dX9_ask_72 : decode cX9_ask 72 = .ok (.ifCond .ne 8, 3) := by decide +kernel
theorem dX9_ask_75 : decode cX9_ask 75 = .ok (.bipush (-6), 2) := by decide +kernel
theorem dX9_ask_77 : decode cX9_ask 77 = .ok (.goto 12, 3) := by decide +kernel
theorem dX9_ask_80 : decode cX9_ask 80 = .ok (.iload_n 1, 1) := by decide +kernel
theorem dX9_ask_81 : decode cX9_ask 81 = .ok (.ifCond .ne 7, 3) := by decide +kernel
theorem dX9_ask_84 : decode cX9_ask 84 = .ok (.iload_n 2, 1) := by decide +kernel
theorem dX9_ask_85 : decode cX9_ask 85 = .ok (.goto 4, 3) := by decide +kernel
theorem dX9_ask_88 : decode cX9_ask 88 = .ok (.iload_n 3, 1) := by decide +kernel
theorem dX9_ask_89 : decode cX9_ask 89 = .ok (.ireturn, 1) := by decide +kernel
theorem dX9_size_0 : decode cX9_size 0 = .ok (.lload_n 0, 1) := by decide +kernel
theorem dX9_size_1 : decode cX9_size 1 = .ok (.lconst 0, 1) := by decide +kernel
theorem dX9_size_2 : decode cX9_size 2 = .ok (.lcmp, 1) := by decide +kernel
theorem dX9_size_3 : decode cX9_size 3 = .ok (.ifCond .ge 8, 3) := by decide +kernel
theorem dX9_size_6 : decode cX9_size 6 = .ok (.lload_n 0, 1) := by decide +kernel
theorem dX9_size_7 : decode cX9_size 7 = .ok (.lneg, 1) := by decide +kernel
theorem dX9_size_8 : decode cX9_size 8 = .ok (.goto 4, 3) := by decide +kernel
theorem dX9_size_11 : decode cX9_size 11 = .ok (.lload_n 0, 1) := by decide +kernel
theorem dX9_size_12 : decode cX9_size 12 = .ok (.lreturn, 1) := by decide +kernel
theorem dX9_lowest_0 : decode cX9_lowest 0 = .ok (.lload_n 2, 1) := by decide +kernel
theorem dX9_lowest_1 : decode cX9_lowest 1 = .ok (.lstore 5, 2) := by decide +kernel
theorem dX9_lowest_3 : decode cX9_lowest 3 = .ok (.lload_n 0, 1) := by decide +kernel
theorem dX9_lowest_4 : decode cX9_lowest 4 = .ok (.invokestatic 294, 3) := by decide +kernel
theorem dX9_lowest_7 : decode cX9_lowest 7 = .ok (.lstore 7, 2) := by decide +kernel
theorem dX9_lowest_9 : decode cX9_lowest 9 = .ok (.lload 7, 2) := by decide +kernel
theorem dX9_lowest_11 : decode cX9_lowest 11 = .ok (.lconst 0, 1) := by decide +kernel
theorem dX9_lowest_12 : decode cX9_lowest 12 = .ok (.lcmp, 1) := by decide +kernel
theorem dX9_lowest_13 : decode cX9_lowest 13 = .ok (.ifCond .eq 21, 3) := by decide +kernel
theorem dX9_lowest_16 : decode cX9_lowest 16 = .ok (.lload 5, 2) := by decide +kernel
theorem dX9_lowest_18 : decode cX9_lowest 18 = .ok (.lload 7, 2) := by decide +kernel
theorem dX9_lowest_20 : decode cX9_lowest 20 = .ok (.lrem, 1) := by decide +kernel
theorem dX9_lowest_21 : decode cX9_lowest 21 = .ok (.lstore 9, 2) := by decide +kernel
theorem dX9_lowest_23 : decode cX9_lowest 23 = .ok (.lload 7, 2) := by decide +kernel
theorem dX9_lowest_25 : decode cX9_lowest 25 = .ok (.lstore 5, 2) := by decide +kernel
theorem dX9_lowest_27 : decode cX9_lowest 27 = .ok (.lload 9, 2) := by decide +kernel
theorem dX9_lowest_29 : decode cX9_lowest 29 = .ok (.lstore 7, 2) := by decide +kernel
theorem dX9_lowest_31 : decode cX9_lowest 31 = .ok (.goto (-22), 3) := by decide +kernel
theorem dX9_lowest_34 : decode cX9_lowest 34 = .ok (.iload 4, 2) := by decide +kernel
theorem dX9_lowest_36 : decode cX9_lowest 36 = .ok (.ifCond .ne 10, 3) := by decide +kernel
theorem dX9_lowest_39 : decode cX9_lowest 39 = .ok (.lload_n 0, 1) := by decide +kernel
theorem dX9_lowest_40 : decode cX9_lowest 40 = .ok (.lload 5, 2) := by decide +kernel
theorem dX9_lowest_42 : decode cX9_lowest 42 = .ok (.ldiv, 1) := by decide +kernel
theorem dX9_lowest_43 : decode cX9_lowest 43 = .ok (.goto 7, 3) := by decide +kernel
theorem dX9_lowest_46 : decode cX9_lowest 46 = .ok (.lload_n 2, 1) := by decide +kernel
theorem dX9_lowest_47 : decode cX9_lowest 47 = .ok (.lload 5, 2) := by decide +kernel
theorem dX9_lowest_49 : decode cX9_lowest 49 = .ok (.ldiv, 1) := by decide +kernel
theorem dX9_lowest_50 : decode cX9_lowest 50 = .ok (.lreturn, 1) := by decide +kernel
theorem dX9_sung_0 : decode cX9_sung 0 = .ok (.iload_n 1, 1) := by decide +kernel
theorem dX9_sung_1 : decode cX9_sung 1 = .ok (.ifCond .ne 14, 3) := by decide +kernel
theorem dX9_sung_4 : decode cX9_sung 4 = .ok (.ldc2_w 298, 3) := by decide +kernel
theorem dX9_sung_7 : decode cX9_sung 7 = .ok (.aload_n 0, 1) := by decide +kernel
theorem dX9_sung_8 : decode cX9_sung 8 = .ok (.getfield 61, 3) := by decide +kernel
theorem dX9_sung_11 : decode cX9_sung 11 = .ok (.iconst 0, 1) := by decide +kernel
theorem dX9_sung_12 : decode cX9_sung 12 = .ok (.laload, 1) := by decide +kernel
theorem dX9_sung_13 : decode cX9_sung 13 = .ok (.lmul, 1) := by decide +kernel
theorem dX9_sung_14 : decode cX9_sung 14 = .ok (.lreturn, 1) := by decide +kernel
theorem dX9_sung_15 : decode cX9_sung 15 = .ok (.iload_n 2, 1) := by decide +kernel
theorem dX9_sung_16 : decode cX9_sung 16 = .ok (.i2l, 1) := by decide +kernel
theorem dX9_sung_17 : decode cX9_sung 17 = .ok (.aload_n 0, 1) := by decide +kernel
theorem dX9_sung_18 : decode cX9_sung 18 = .ok (.getfield 61, 3) := by decide +kernel
theorem dX9_sung_21 : decode cX9_sung 21 = .ok (.iload_n 1, 1) := by decide +kernel
theorem dX9_sung_22 : decode cX9_sung 22 = .ok (.iconst 1, 1) := by decide +kernel
theorem dX9_sung_23 : decode cX9_sung 23 = .ok (.isub, 1) := by decide +kernel
theorem dX9_sung_24 : decode cX9_sung 24 = .ok (.laload, 1) := by decide +kernel
theorem dX9_sung_25 : decode cX9_sung 25 = .ok (.lmul, 1) := by decide +kernel
theorem dX9_sung_26 : decode cX9_sung 26 = .ok (.ldc2_w 298, 3) := by decide +kernel
theorem dX9_sung_29 : decode cX9_sung 29 = .ok (.iload_n 2, 1) := by decide +kernel
theorem dX9_sung_30 : decode cX9_sung 30 = .ok (.i2l, 1) := by decide +kernel
theorem dX9_sung_31 : decode cX9_sung 31 = .ok (.lsub, 1) := by decide +kernel
theorem dX9_sung_32 : decode cX9_sung 32 = .ok (.aload_n 0, 1) := by decide +kernel
theorem dX9_sung_33 : decode cX9_sung 33 = .ok (.getfield 61, 3) := by decide +kernel
theorem dX9_sung_36 : decode cX9_sung 36 = .ok (.iload_n 1, 1) := by decide +kernel
theorem dX9_sung_37 : decode cX9_sung 37 = .ok (.bipush 9, 2) := by decide +kernel
theorem dX9_sung_39 : decode cX9_sung 39 = .ok (.if_icmp .ge 9, 3) := by decide +kernel
theorem dX9_sung_42 : decode cX9_sung 42 = .ok (.iload_n 1, 1) := by decide +kernel
theorem dX9_sung_43 : decode cX9_sung 43 = .ok (.iconst 1, 1) := by decide +kernel
theorem dX9_sung_44 : decode cX9_sung 44 = .ok (.iadd, 1) := by decide +kernel
theorem dX9_sung_45 : decode cX9_sung 45 = .ok (.goto 5, 3) := by decide +kernel
theorem dX9_sung_48 : decode cX9_sung 48 = .ok (.bipush 9, 2) := by decide +kernel
theorem dX9_sung_50 : decode cX9_sung 50 = .ok (.laload, 1) := by decide +kernel
theorem dX9_sung_51 : decode cX9_sung 51 = .ok (.lmul, 1) := by decide +kernel
theorem dX9_sung_52 : decode cX9_sung 52 = .ok (.ladd, 1) := by decide +kernel
theorem dX9_sung_53 : decode cX9_sung 53 = .ok (.lreturn, 1) := by decide +kernel
theorem dX9_fugueGood_0 : decode cX9_fugueGood 0 = .ok (.iload_n 1, 1) := by decide +kernel
theorem dX9_fugueGood_1 : decode cX9_fugueGood 1 = .ok (.i2l, 1) := by decide +kernel
theorem dX9_fugueGood_2 : decode cX9_fugueGood 2 = .ok (.lconst 0, 1) := by decide +kernel
theorem dX9_fugueGood_3 : decode cX9_fugueGood 3 = .ok (.ldc2_w 112, 3) := by decide +kernel
theorem dX9_fugueGood_6 : decode cX9_fugueGood 6 = .ok (.invokestatic 77, 3) := by decide +kernel
theorem dX9_fugueGood_9 : decode cX9_fugueGood 9 = .ok (.ifCond .eq 57, 3) := by decide +kernel
theorem dX9_fugueGood_12 : decode cX9_fugueGood 12 = .ok (.iload_n 2, 1) := by decide +kernel
theorem dX9_fugueGood_13 : decode cX9_fugueGood 13 = .ok (.i2l, 1) := by decide +kernel
theorem dX9_fugueGood_14 : decode cX9_fugueGood 14 = .ok (.lconst 0, 1) := by decide +kernel
theorem dX9_fugueGood_15 : decode cX9_fugueGood 15 = .ok (.ldc2_w 300, 3) := by decide +kernel
theorem dX9_fugueGood_18 : decode cX9_fugueGood 18 = .ok (.invokestatic 77, 3) := by decide +kernel
theorem dX9_fugueGood_21 : decode cX9_fugueGood 21 = .ok (.ifCond .eq 45, 3) := by decide +kernel
theorem dX9_fugueGood_24 : decode cX9_fugueGood 24 = .ok (.iload_n 3, 1) := by decide +kernel
theorem dX9_fugueGood_25 : decode cX9_fugueGood 25 = .ok (.i2l, 1) := by decide +kernel
theorem dX9_fugueGood_26 : decode cX9_fugueGood 26 = .ok (.lconst 0, 1) := by decide +kernel
theorem dX9_fugueGood_27 : decode cX9_fugueGood 27 = .ok (.ldc2_w 298, 3) := by decide +kernel
theorem dX9_fugueGood_30 : decode cX9_fugueGood 30 = .ok (.invokestatic 77, 3) := by decide +kernel
theorem dX9_fugueGood_33 : decode cX9_fugueGood 33 = .ok (.ifCond .eq 33, 3) := by decide +kernel
theorem dX9_fugueGood_36 : decode cX9_fugueGood 36 = .ok (.iload 4, 2) := by decide +kernel
theorem dX9_fugueGood_38 : decode cX9_fugueGood 38 = .ok (.i2l, 1) := by decide +kernel
theorem dX9_fugueGood_39 : decode cX9_fugueGood 39 = .ok (.lconst 0, 1) := by decide +kernel
theorem dX9_fugueGood_40 : decode cX9_fugueGood 40 = .ok (.ldc2_w 112, 3) := by decide +kernel
theorem dX9_fugueGood_43 : decode cX9_fugueGood 43 = .ok (.invokestatic 77, 3) := by decide +kernel
theorem dX9_fugueGood_46 : decode cX9_fugueGood 46 = .ok (.ifCond .eq 20, 3) := by decide +kernel
theorem dX9_fugueGood_49 : decode cX9_fugueGood 49 = .ok (.iload 5, 2) := by decide +kernel
theorem dX9_fugueGood_51 : decode cX9_fugueGood 51 = .ok (.i2l, 1) := by decide +kernel
theorem dX9_fugueGood_52 : decode cX9_fugueGood 52 = .ok (.lconst 0, 1) := by decide +kernel
theorem dX9_fugueGood_53 : decode cX9_fugueGood 53 = .ok (.ldc2_w 112, 3) := by decide +kernel
theorem dX9_fugueGood_56 : decode cX9_fugueGood 56 = .ok (.invokestatic 77, 3) := by decide +kernel
theorem dX9_fugueGood_59 : decode cX9_fugueGood 59 = .ok (.ifCond .eq 7, 3) := by decide +kernel
theorem dX9_fugueGood_62 : decode cX9_fugueGood 62 = .ok (.iconst 1, 1) := by decide +kernel
theorem dX9_fugueGood_63 : decode cX9_fugueGood 63 = .ok (.goto 4, 3) := by decide +kernel
theorem dX9_fugueGood_66 : decode cX9_fugueGood 66 = .ok (.iconst 0, 1) := by decide +kernel
theorem dX9_fugueGood_67 : decode cX9_fugueGood 67 = .ok (.ireturn, 1) := by decide +kernel
theorem dX9_fugue_0 : decode cX9_fugue 0 = .ok (.aload_n 0, 1) := by decide +kernel
theorem dX9_fugue_1 : decode cX9_fugue 1 = .ok (.iload_n 1, 1) := by decide +kernel
theorem dX9_fugue_2 : decode cX9_fugue 2 = .ok (.iload_n 2, 1) := by decide +kernel
theorem dX9_fugue_3 : decode cX9_fugue 3 = .ok (.iload_n 3, 1) := by decide +kernel
theorem dX9_fugue_4 : decode cX9_fugue 4 = .ok (.iload 4, 2) := by decide +kernel
theorem dX9_fugue_6 : decode cX9_fugue 6 = .ok (.iload 5, 2) := by decide +kernel
theorem dX9_fugue_8 : decode cX9_fugue 8 = .ok (.invokevirtual 302, 3) := by decide +kernel
theorem dX9_fugue_11 : decode cX9_fugue 11 = .ok (.ifCond .eq 25, 3) := by decide +kernel
theorem dX9_fugue_14 : decode cX9_fugue 14 = .ok (.iload 6, 2) := by decide +kernel
theorem dX9_fugue_16 : decode cX9_fugue 16 = .ok (.i2l, 1) := by decide +kernel
theorem dX9_fugue_17 : decode cX9_fugue 17 = .ok (.lconst 0, 1) := by decide +kernel
theorem dX9_fugue_18 : decode cX9_fugue 18 = .ok (.lconst 1, 1) := by decide +kernel
theorem dX9_fugue_19 : decode cX9_fugue 19 = .ok (.invokestatic 77, 3) := by decide +kernel
theorem dX9_fugue_22 : decode cX9_fugue 22 = .ok (.ifCond .eq 14, 3) := by decide +kernel
theorem dX9_fugue_25 : decode cX9_fugue 25 = .ok (.iload 7, 2) := by decide +kernel
theorem dX9_fugue_27 : decode cX9_fugue 27 = .ok (.i2l, 1) := by decide +kernel
theorem dX9_fugue_28 : decode cX9_fugue 28 = .ok (.lconst 0, 1) := by decide +kernel
theorem dX9_fugue_29 : decode cX9_fugue 29 = .ok (.lconst 1, 1) := by decide +kernel
theorem dX9_fugue_30 : decode cX9_fugue 30 = .ok (.invokestatic 77, 3) := by decide +kernel
theorem dX9_fugue_33 : decode cX9_fugue 33 = .ok (.ifCond .ne 7, 3) := by decide +kernel
theorem dX9_fugue_36 : decode cX9_fugue 36 = .ok (.ldc2_w 306, 3) := by decide +kernel
theorem dX9_fugue_39 : decode cX9_fugue 39 = .ok (.lreturn, 1) := by decide +kernel
theorem dX9_fugue_40 : decode cX9_fugue 40 = .ok (.iconst 0, 1) := by decide +kernel
theorem dX9_fugue_41 : decode cX9_fugue 41 = .ok (.istore 8, 2) := by decide +kernel
theorem dX9_fugue_43 : decode cX9_fugue 43 = .ok (.iload 8, 2) := by decide +kernel
theorem dX9_fugue_45 : decode cX9_fugue 45 = .ok (.bipush 9, 2) := by decide +kernel
theorem dX9_fugue_47 : decode cX9_fugue 47 = .ok (.if_icmp .gt 23, 3) := by decide +kernel
theorem dX9_fugue_50 : decode cX9_fugue 50 = .ok (.aload_n 0, 1) := by decide +kernel
theorem dX9_fugue_51 : decode cX9_fugue 51 = .ok (.getfield 61, 3) := by decide +kernel
theorem dX9_fugue_54 : decode cX9_fugue 54 = .ok (.iload 8, 2) := by decide +kernel
theorem dX9_fugue_56 : decode cX9_fugue 56 = .ok (.iload 5, 2) := by decide +kernel
theorem dX9_fugue_58 : decode cX9_fugue 58 = .ok (.ineg, 1) := by decide +kernel
theorem dX9_fugue_59 : decode cX9_fugue 59 = .ok (.iload 8, 2) := by decide +kernel
theorem dX9_fugue_61 : decode cX9_fugue 61 = .ok (.imul, 1) := by decide +kernel
theorem dX9_fugue_62 : decode cX9_fugue 62 = .ok (.i2l, 1) := by decide +kernel
theorem dX9_fugue_63 : decode cX9_fugue 63 = .ok (.lastore, 1) := by decide +kernel
theorem dX9_fugue_64 : decode cX9_fugue 64 = .ok (.iinc 8 1, 3) := by decide +kernel
theorem dX9_fugue_67 : decode cX9_fugue 67 = .ok (.goto (-24), 3) := by decide +kernel
theorem dX9_fugue_70 : decode cX9_fugue 70 = .ok (.lconst 1, 1) := by decide +kernel
theorem dX9_fugue_71 : decode cX9_fugue 71 = .ok (.lstore 8, 2) := by decide +kernel
theorem dX9_fugue_73 : decode cX9_fugue 73 = .ok (.iconst 0, 1) := by decide +kernel
theorem dX9_fugue_74 : decode cX9_fugue 74 = .ok (.istore 10, 2) := by decide +kernel
theorem dX9_fugue_76 : decode cX9_fugue 76 = .ok (.iconst 0, 1) := by decide +kernel
theorem dX9_fugue_77 : decode cX9_fugue 77 = .ok (.istore 11, 2) := by decide +kernel
theorem dX9_fugue_79 : decode cX9_fugue 79 = .ok (.iload 11, 2) := by decide +kernel
theorem dX9_fugue_81 : decode cX9_fugue 81 = .ok (.iload_n 2, 1) := by decide +kernel
theorem dX9_fugue_82 : decode cX9_fugue 82 = .ok (.if_icmp .ge 150, 3) := by decide +kernel
theorem dX9_fugue_85 : decode cX9_fugue 85 = .ok (.lload 8, 2) := by decide +kernel
theorem dX9_fugue_87 : decode cX9_fugue 87 = .ok (.ldc2_w 298, 3) := by decide +kernel
theorem dX9_fugue_90 : decode cX9_fugue 90 = .ok (.lmul, 1) := by decide +kernel
theorem dX9_fugue_91 : decode cX9_fugue 91 = .ok (.lstore 8, 2) := by decide +kernel
theorem dX9_fugue_93 : decode cX9_fugue 93 = .ok (.iconst 0, 1) := by decide +kernel
theorem dX9_fugue_94 : decode cX9_fugue 94 = .ok (.istore 12, 2) := by decide +kernel
theorem dX9_fugue_96 : decode cX9_fugue 96 = .ok (.iload 12, 2) := by decide +kernel
theorem dX9_fugue_98 : decode cX9_fugue 98 = .ok (.bipush 9, 2) := by decide +kernel
theorem dX9_fugue_100 : decode cX9_fugue 100 = .ok (.if_icmp .gt 96, 3) := by decide +kernel
theorem dX9_fugue_103 : decode cX9_fugue 103 = .ok (.aload_n 0, 1) := by decide +kernel
theorem dX9_fugue_104 : decode cX9_fugue 104 = .ok (.iload 12, 2) := by decide +kernel
theorem dX9_fugue_106 : decode cX9_fugue 106 = .ok (.iload_n 3, 1) := by decide +kernel
theorem dX9_fugue_107 : decode cX9_fugue 107 = .ok (.invokevirtual 308, 3) := by decide +kernel
theorem dX9_fugue_110 : decode cX9_fugue 110 = .ok (.lstore 13, 2) := by decide +kernel
theorem dX9_fugue_112 : decode cX9_fugue 112 = .ok (.iload 12, 2) := by decide +kernel
theorem dX9_fugue_114 : decode cX9_fugue 114 = .ok (.bipush 9, 2) := by decide +kernel
theorem dX9_fugue_116 : decode cX9_fugue 116 = .ok (.if_icmp .ge 22, 3) := by decide +kernel
theorem dX9_fugue_119 : decode cX9_fugue 119 = .ok (.iload 4, 2) := by decide +kernel
theorem dX9_fugue_121 : decode cX9_fugue 121 = .ok (.i2l, 1) := by decide +kernel
theorem dX9_fugue_122 : decode cX9_fugue 122 = .ok (.lload 8, 2) := by decide +kernel
theorem dX9_fugue_124 : decode cX9_fugue 124 = .ok (.lmul, 1) := by decide +kernel
theorem dX9_fugue_125 : decode cX9_fugue 125 = .ok (.aload_n 0, 1) := by decide +kernel
theorem dX9_fugue_126 : decode cX9_fugue 126 = .ok (.iload 12, 2) := by decide +kernel
theorem dX9_fugue_128 : decode cX9_fugue 128 = .ok (.iconst 1, 1) := by decide +kernel
theorem dX9_fugue_129 : decode cX9_fugue 129 = .ok (.iadd, 1) := by decide +kernel
theorem dX9_fugue_130 : decode cX9_fugue 130 = .ok (.iload_n 3, 1) := by decide +kernel
theorem dX9_fugue_131 : decode cX9_fugue 131 = .ok (.invokevirtual 308, 3) := by decide +kernel
theorem dX9_fugue_134 : decode cX9_fugue 134 = .ok (.ladd, 1) := by decide +kernel
theorem dX9_fugue_135 : decode cX9_fugue 135 = .ok (.goto 5, 3) := by decide +kernel
theorem dX9_fugue_138 : decode cX9_fugue 138 = .ok (.lload 13, 2) := by decide +kernel
theorem dX9_fugue_140 : decode cX9_fugue 140 = .ok (.lstore 15, 2) := by decide +kernel
theorem dX9_fugue_142 : decode cX9_fugue 142 = .ok (.iload 12, 2) := by decide +kernel
theorem dX9_fugue_144 : decode cX9_fugue 144 = .ok (.iload_n 1, 1) := by decide +kernel
theorem dX9_fugue_145 : decode cX9_fugue 145 = .ok (.if_icmp .ne 19, 3) := by decide +kernel
theorem dX9_fugue_148 : decode cX9_fugue 148 = .ok (.lload 15, 2) := by decide +kernel
theorem dX9_fugue_150 : decode cX9_fugue 150 = .ok (.lload 13, 2) := by decide +kernel
theorem dX9_fugue_152 : decode cX9_fugue 152 = .ok (.lcmp, 1) := by decide +kernel
theorem dX9_fugue_153 : decode cX9_fugue 153 = .ok (.ifCond .le 7, 3) := by decide +kernel
theorem dX9_fugue_156 : decode cX9_fugue 156 = .ok (.iconst 1, 1) := by decide +kernel
theorem dX9_fugue_157 : decode cX9_fugue 157 = .ok (.goto 9, 3) := by decide +kernel
theorem dX9_fugue_160 : decode cX9_fugue 160 = .ok (.iconst 0, 1) := by decide +kernel
theorem dX9_fugue_161 : decode cX9_fugue 161 = .ok (.goto 5, 3) := by decide +kernel
theorem dX9_fugue_164 : decode cX9_fugue 164 = .ok (.iload 10, 2) := by decide +kernel
theorem dX9_fugue_166 : decode cX9_fugue 166 = .ok (.istore 10, 2) := by decide +kernel
theorem dX9_fugue_168 : decode cX9_fugue 168 = .ok (.aload_n 0, 1) := by decide +kernel
theorem dX9_fugue_169 : decode cX9_fugue 169 = .ok (.getfield 65, 3) := by decide +kernel
theorem dX9_fugue_172 : decode cX9_fugue 172 = .ok (.iload 12, 2) := by decide +kernel
theorem dX9_fugue_174 : decode cX9_fugue 174 = .ok (.lload 15, 2) := by decide +kernel
theorem dX9_fugue_176 : decode cX9_fugue 176 = .ok (.lload 13, 2) := by decide +kernel
theorem dX9_fugue_178 : decode cX9_fugue 178 = .ok (.lcmp, 1) := by decide +kernel
theorem dX9_fugue_179 : decode cX9_fugue 179 = .ok (.ifCond .le 8, 3) := by decide +kernel
theorem dX9_fugue_182 : decode cX9_fugue 182 = .ok (.lload 15, 2) := by decide +kernel
theorem dX9_fugue_184 : decode cX9_fugue 184 = .ok (.goto 5, 3) := by decide +kernel
theorem dX9_fugue_187 : decode cX9_fugue 187 = .ok (.lload 13, 2) := by decide +kernel
theorem dX9_fugue_189 : decode cX9_fugue 189 = .ok (.lastore, 1) := by decide +kernel
theorem dX9_fugue_190 : decode cX9_fugue 190 = .ok (.iinc 12 1, 3) := by decide +kernel
theorem dX9_fugue_193 : decode cX9_fugue 193 = .ok (.goto (-97), 3) := by decide +kernel
theorem dX9_fugue_196 : decode cX9_fugue 196 = .ok (.iconst 0, 1) := by decide +kernel
theorem dX9_fugue_197 : decode cX9_fugue 197 = .ok (.istore 12, 2) := by decide +kernel
theorem dX9_fugue_199 : decode cX9_fugue 199 = .ok (.iload 12, 2) := by decide +kernel
theorem dX9_fugue_201 : decode cX9_fugue 201 = .ok (.bipush 9, 2) := by decide +kernel
theorem dX9_fugue_203 : decode cX9_fugue 203 = .ok (.if_icmp .gt 23, 3) := by decide +kernel
theorem dX9_fugue_206 : decode cX9_fugue 206 = .ok (.aload_n 0, 1) := by decide +kernel
theorem dX9_fugue_207 : decode cX9_fugue 207 = .ok (.getfield 61, 3) := by decide +kernel
theorem dX9_fugue_210 : decode cX9_fugue 210 = .ok (.iload 12, 2) := by decide +kernel
theorem dX9_fugue_212 : decode cX9_fugue 212 = .ok (.aload_n 0, 1) := by decide +kernel
theorem dX9_fugue_213 : decode cX9_fugue 213 = .ok (.getfield 65, 3) := by decide +kernel
theorem dX9_fugue_216 : decode cX9_fugue 216 = .ok (.iload 12, 2) := by decide +kernel
theorem dX9_fugue_218 : decode cX9_fugue 218 = .ok (.laload, 1) := by decide +kernel
theorem dX9_fugue_219 : decode cX9_fugue 219 = .ok (.lastore, 1) := by decide +kernel
theorem dX9_fugue_220 : decode cX9_fugue 220 = .ok (.iinc 12 1, 3) := by decide +kernel
theorem dX9_fugue_223 : decode cX9_fugue 223 = .ok (.goto (-24), 3) := by decide +kernel
theorem dX9_fugue_226 : decode cX9_fugue 226 = .ok (.iinc 11 1, 3) := by decide +kernel
theorem dX9_fugue_229 : decode cX9_fugue 229 = .ok (.goto (-150), 3) := by decide +kernel
theorem dX9_fugue_232 : decode cX9_fugue 232 = .ok (.iload 6, 2) := by decide +kernel
theorem dX9_fugue_234 : decode cX9_fugue 234 = .ok (.iconst 1, 1) := by decide +kernel
theorem dX9_fugue_235 : decode cX9_fugue 235 = .ok (.if_icmp .ne 16, 3) := by decide +kernel
theorem dX9_fugue_238 : decode cX9_fugue 238 = .ok (.iload 10, 2) := by decide +kernel
theorem dX9_fugue_240 : decode cX9_fugue 240 = .ok (.ifCond .eq 7, 3) := by decide +kernel
theorem dX9_fugue_243 : decode cX9_fugue 243 = .ok (.lconst 1, 1) := by decide +kernel
theorem dX9_fugue_244 : decode cX9_fugue 244 = .ok (.goto 20, 3) := by decide +kernel
theorem dX9_fugue_247 : decode cX9_fugue 247 = .ok (.lconst 0, 1) := by decide +kernel
theorem dX9_fugue_248 : decode cX9_fugue 248 = .ok (.goto 16, 3) := by decide +kernel
theorem dX9_fugue_251 : decode cX9_fugue 251 = .ok (.aload_n 0, 1) := by decide +kernel
theorem dX9_fugue_252 : decode cX9_fugue 252 = .ok (.getfield 61, 3) := by decide +kernel
theorem dX9_fugue_255 : decode cX9_fugue 255 = .ok (.iload_n 1, 1) := by decide +kernel
theorem dX9_fugue_256 : decode cX9_fugue 256 = .ok (.laload, 1) := by decide +kernel
theorem dX9_fugue_257 : decode cX9_fugue 257 = .ok (.lload 8, 2) := by decide +kernel
theorem dX9_fugue_259 : decode cX9_fugue 259 = .ok (.iload 7, 2) := by decide +kernel
theorem dX9_fugue_261 : decode cX9_fugue 261 = .ok (.invokestatic 312, 3) := by decide +kernel
theorem dX9_fugue_264 : decode cX9_fugue 264 = .ok (.lreturn, 1) := by decide +kernel
theorem dX9_actBy_0 : decode cX9_actBy 0 = .ok (.iload_n 0, 1) := by decide +kernel
theorem dX9_actBy_1 : decode cX9_actBy 1 = .ok (.iconst 3, 1) := by decide +kernel
theorem dX9_actBy_2 : decode cX9_actBy 2 = .ok (.if_icmp .ge 7, 3) := by decide +kernel
theorem dX9_actBy_5 : decode cX9_actBy 5 = .ok (.iconst 0, 1) := by decide +kernel
theorem dX9_actBy_6 : decode cX9_actBy 6 = .ok (.goto 33, 3) := by decide +kernel
theorem dX9_actBy_9 : decode cX9_actBy 9 = .ok (.iload_n 0, 1) := by decide +kernel
theorem dX9_actBy_10 : decode cX9_actBy 10 = .ok (.iconst 3, 1) := by decide +kernel
theorem dX9_actBy_11 : decode cX9_actBy 11 = .ok (.if_icmp .ne 7, 3) := by decide +kernel
theorem dX9_actBy_14 : decode cX9_actBy 14 = .ok (.iconst 5, 1) := by decide +kernel
theorem dX9_actBy_15 : decode cX9_actBy 15 = .ok (.goto 24, 3) := by decide +kernel
theorem dX9_actBy_18 : decode cX9_actBy 18 = .ok (.iload_n 0, 1) := by decide +kernel
theorem dX9_actBy_19 : decode cX9_actBy 19 = .ok (.bipush 6, 2) := by decide +kernel
theorem dX9_actBy_21 : decode cX9_actBy 21 = .ok (.if_icmp .ge 7, 3) := by decide +kernel
theorem dX9_actBy_24 : decode cX9_actBy 24 = .ok (.iconst 1, 1) := by decide +kernel
theorem dX9_actBy_25 : decode cX9_actBy 25 = .ok (.goto 14, 3) := by decide +kernel
theorem dX9_actBy_28 : decode cX9_actBy 28 = .ok (.iload_n 0, 1) := by decide +kernel
theorem dX9_actBy_29 : decode cX9_actBy 29 = .ok (.bipush 6, 2) := by decide +kernel
theorem dX9_actBy_31 : decode cX9_actBy 31 = .ok (.if_icmp .ne 7, 3) := by decide +kernel
theorem dX9_actBy_34 : decode cX9_actBy 34 = .ok (.iconst 2, 1) := by decide +kernel
theorem dX9_actBy_35 : decode cX9_actBy 35 = .ok (.goto 4, 3) := by decide +kernel
theorem dX9_actBy_38 : decode cX9_actBy 38 = .ok (.iconst 3, 1) := by decide +kernel
theorem dX9_actBy_39 : decode cX9_actBy 39 = .ok (.ireturn, 1) := by decide +kernel
theorem dX9_year_0 : decode cX9_year 0 = .ok (.iload_n 1, 1) := by decide +kernel
theorem dX9_year_1 : decode cX9_year 1 = .ok (.i2l, 1) := by decide +kernel
theorem dX9_year_2 : decode cX9_year 2 = .ok (.lconst 0, 1) := by decide +kernel
theorem dX9_year_3 : decode cX9_year 3 = .ok (.ldc2_w 316, 3) := by decide +kernel
theorem dX9_year_6 : decode cX9_year 6 = .ok (.invokestatic 77, 3) := by decide +kernel
theorem dX9_year_9 : decode cX9_year 9 = .ok (.ifCond .eq 27, 3) := by decide +kernel
theorem dX9_year_12 : decode cX9_year 12 = .ok (.iload_n 2, 1) := by decide +kernel
theorem dX9_year_13 : decode cX9_year 13 = .ok (.i2l, 1) := by decide +kernel
theorem dX9_year_14 : decode cX9_year 14 = .ok (.lconst 1, 1) := by decide +kernel
theorem dX9_year_15 : decode cX9_year 15 = .ok (.ldc2_w 248, 3) := by decide +kernel
theorem dX9_year_18 : decode cX9_year 18 = .ok (.invokestatic 77, 3) := by decide +kernel
theorem dX9_year_21 : decode cX9_year 21 = .ok (.ifCond .eq 15, 3) := by decide +kernel
theorem dX9_year_24 : decode cX9_year 24 = .ok (.iload_n 3, 1) := by decide +kernel
theorem dX9_year_25 : decode cX9_year 25 = .ok (.i2l, 1) := by decide +kernel
theorem dX9_year_26 : decode cX9_year 26 = .ok (.lconst 0, 1) := by decide +kernel
theorem dX9_year_27 : decode cX9_year 27 = .ok (.ldc2_w 219, 3) := by decide +kernel
theorem dX9_year_30 : decode cX9_year 30 = .ok (.invokestatic 77, 3) := by decide +kernel
theorem dX9_year_33 : decode cX9_year 33 = .ok (.ifCond .ne 6, 3) := by decide +kernel
theorem dX9_year_36 : decode cX9_year 36 = .ok (.bipush (-2), 2) := by decide +kernel
theorem dX9_year_38 : decode cX9_year 38 = .ok (.ireturn, 1) := by decide +kernel
theorem dX9_year_39 : decode cX9_year 39 = .ok (.aload_n 0, 1) := by decide +kernel
theorem dX9_year_40 : decode cX9_year 40 = .ok (.invokevirtual 210, 3) := by decide +kernel
theorem dX9_year_43 : decode cX9_year 43 = .ok (.aload_n 0, 1) := by decide +kernel
theorem dX9_year_44 : decode cX9_year 44 = .ok (.iconst 0, 1) := by decide +kernel
theorem dX9_year_45 : decode cX9_year 45 = .ok (.putfield 163, 3) := by decide +kernel
theorem dX9_year_48 : decode cX9_year 48 = .ok (.aload_n 0, 1) := by decide +kernel
theorem dX9_year_49 : decode cX9_year 49 = .ok (.iconst 0, 1) := by decide +kernel
theorem dX9_year_50 : decode cX9_year 50 = .ok (.putfield 166, 3) := by decide +kernel
theorem dX9_year_53 : decode cX9_year 53 = .ok (.iload_n 1, 1) := by decide +kernel
theorem dX9_year_54 : decode cX9_year 54 = .ok (.istore 4, 2) := by decide +kernel
theorem dX9_year_56 : decode cX9_year 56 = .ok (.iconst 0, 1) := by decide +kernel
theorem dX9_year_57 : decode cX9_year 57 = .ok (.istore 5, 2) := by decide +kernel
theorem dX9_year_59 : decode cX9_year 59 = .ok (.iload 5, 2) := by decide +kernel
theorem dX9_year_61 : decode cX9_year 61 = .ok (.iload_n 2, 1) := by decide +kernel
theorem dX9_year_62 : decode cX9_year 62 = .ok (.if_icmp .ge 112, 3) := by decide +kernel
theorem dX9_year_65 : decode cX9_year 65 = .ok (.ldc2_w 318, 3) := by decide +kernel
theorem dX9_year_68 : decode cX9_year 68 = .ok (.iload 4, 2) := by decide +kernel
theorem dX9_year_70 : decode cX9_year 70 = .ok (.i2l, 1) := by decide +kernel
theorem dX9_year_71 : decode cX9_year 71 = .ok (.lmul, 1) := by decide +kernel
theorem dX9_year_72 : decode cX9_year 72 = .ok (.ldc2_w 320, 3) := by decide +kernel
theorem dX9_year_75 : decode cX9_year 75 = .ok (.ladd, 1) := by decide +kernel
theorem dX9_year_76 : decode cX9_year 76 = .ok (.ldc2_w 322, 3) := by decide +kernel
theorem dX9_year_79 : decode cX9_year 79 = .ok (.lrem, 1) := by decide +kernel
theorem dX9_year_80 : decode cX9_year 80 = .ok (.l2i, 1) := by decide +kernel
theorem dX9_year_81 : decode cX9_year 81 = .ok (.istore 4, 2) := by decide +kernel
theorem dX9_year_83 : decode cX9_year 83 = .ok (.iload 4, 2) := by decide +kernel
theorem dX9_year_85 : decode cX9_year 85 = .ok (.bipush 8, 2) := by decide +kernel
theorem dX9_year_87 : decode cX9_year 87 = .ok (.irem, 1) := by decide +kernel
theorem dX9_year_88 : decode cX9_year 88 = .ok (.invokestatic 324, 3) := by decide +kernel
theorem dX9_year_91 : decode cX9_year 91 = .ok (.istore 6, 2) := by decide +kernel
theorem dX9_year_93 : decode cX9_year 93 = .ok (.iload 4, 2) := by decide +kernel
theorem dX9_year_95 : decode cX9_year 95 = .ok (.bipush 8, 2) := by decide +kernel
theorem dX9_year_97 : decode cX9_year 97 = .ok (.idiv, 1) := by decide +kernel
theorem dX9_year_98 : decode cX9_year 98 = .ok (.iload 6, 2) := by decide +kernel
theorem dX9_year_100 : decode cX9_year 100 = .ok (.ifCond .ne 8, 3) := by decide +kernel
theorem dX9_year_103 : decode cX9_year 103 = .ok (.bipush 6, 2) := by decide +kernel
theorem dX9_year_105 : decode cX9_year 105 = .ok (.goto 5, 3) := by decide +kernel
theorem dX9_year_108 : decode cX9_year 108 = .ok (.bipush 8, 2) := by decide +kernel
theorem dX9_year_110 : decode cX9_year 110 = .ok (.irem, 1) := by decide +kernel
theorem dX9_year_111 : decode cX9_year 111 = .ok (.istore 7, 2) := by decide +kernel
theorem dX9_year_113 : decode cX9_year 113 = .ok (.iload 6, 2) := by decide +kernel
theorem dX9_year_115 : decode cX9_year 115 = .ok (.iconst 1, 1) := by decide +kernel
theorem dX9_year_116 : decode cX9_year 116 = .ok (.if_icmp .ne 19, 3) := by decide +kernel
theorem dX9_year_119 : decode cX9_year 119 = .ok (.bipush 10, 2) := by decide +kernel
theorem dX9_year_121 : decode cX9_year 121 = .ok (.iconst 1, 1) := by decide +kernel
theorem dX9_year_122 : decode cX9_year 122 = .ok (.iload 4, 2) := by decide +kernel
theorem dX9_year_124 : decode cX9_year 124 = .ok (.bipush 64, 2) := by decide +kernel
theorem dX9_year_126 : decode cX9_year 126 = .ok (.idiv, 1) := by decide +kernel
theorem dX9_year_127 : decode cX9_year 127 = .ok (.bipush 9, 2) := by decide +kernel
theorem dX9_year_129 : decode cX9_year 129 = .ok (.irem, 1) := by decide +kernel
theorem dX9_year_130 : decode cX9_year 130 = .ok (.iadd, 1) := by decide +kernel
theorem dX9_year_131 : decode cX9_year 131 = .ok (.imul, 1) := by decide +kernel
theorem dX9_year_132 : decode cX9_year 132 = .ok (.goto 11, 3) := by decide +kernel
theorem dX9_year_135 : decode cX9_year 135 = .ok (.iload 4, 2) := by decide +kernel
theorem dX9_year_137 : decode cX9_year 137 = .ok (.bipush 64, 2) := by decide +kernel
theorem dX9_year_139 : decode cX9_year 139 = .ok (.idiv, 1) := by decide +kernel
theorem dX9_year_140 : decode cX9_year 140 = .ok (.bipush 8, 2) := by decide +kernel
theorem dX9_year_142 : decode cX9_year 142 = .ok (.irem, 1) := by decide +kernel
theorem dX9_year_143 : decode cX9_year 143 = .ok (.istore 8, 2) := by decide +kernel
theorem dX9_year_145 : decode cX9_year 145 = .ok (.aload_n 0, 1) := by decide +kernel
theorem dX9_year_146 : decode cX9_year 146 = .ok (.iload 6, 2) := by decide +kernel
theorem dX9_year_148 : decode cX9_year 148 = .ok (.iload 7, 2) := by decide +kernel
theorem dX9_year_150 : decode cX9_year 150 = .ok (.iload 8, 2) := by decide +kernel
theorem dX9_year_152 : decode cX9_year 152 = .ok (.invokevirtual 192, 3) := by decide +kernel
theorem dX9_year_155 : decode cX9_year 155 = .ok (.ifCond .ne 13, 3) := by decide +kernel
theorem dX9_year_158 : decode cX9_year 158 = .ok (.aload_n 0, 1) := by decide +kernel
theorem dX9_year_159 : decode cX9_year 159 = .ok (.iload 6, 2) := by decide +kernel
theorem dX9_year_161 : decode cX9_year 161 = .ok (.iload 7, 2) := by decide +kernel
theorem dX9_year_163 : decode cX9_year 163 = .ok (.iload 8, 2) := by decide +kernel
theorem dX9_year_165 : decode cX9_year 165 = .ok (.invokevirtual 203, 3) := by decide +kernel
theorem dX9_year_168 : decode cX9_year 168 = .ok (.iinc 5 1, 3) := by decide +kernel
theorem dX9_year_171 : decode cX9_year 171 = .ok (.goto (-112), 3) := by decide +kernel
theorem dX9_year_174 : decode cX9_year 174 = .ok (.iload_n 3, 1) := by decide +kernel
theorem dX9_year_175 : decode cX9_year 175 = .ok (.ifCond .ne 10, 3) := by decide +kernel
theorem dX9_year_178 : decode cX9_year 178 = .ok (.aload_n 0, 1) := by decide +kernel
theorem dX9_year_179 : decode cX9_year 179 = .ok (.invokevirtual 227, 3) := by decide +kernel
theorem dX9_year_182 : decode cX9_year 182 = .ok (.goto 29, 3) := by decide +kernel
theorem dX9_year_185 : decode cX9_year 185 = .ok (.iload_n 3, 1) := by decide +kernel
theorem dX9_year_186 : decode cX9_year 186 = .ok (.iconst 1, 1) := by decide +kernel
theorem dX9_year_187 : decode cX9_year 187 = .ok (.if_icmp .ne 20, 3) := by decide +kernel
theorem dX9_year_190 : decode cX9_year 190 = .ok (.aload_n 0, 1) := by decide +kernel
theorem dX9_year_191 : decode cX9_year 191 = .ok (.getfield 81, 3) := by decide +kernel
theorem dX9_year_194 : decode cX9_year 194 = .ok (.aload_n 0, 1) := by decide +kernel
theorem dX9_year_195 : decode cX9_year 195 = .ok (.invokevirtual 199, 3) := by decide +kernel
theorem dX9_year_198 : decode cX9_year 198 = .ok (.iconst (-1), 1) := by decide +kernel
theorem dX9_year_199 : decode cX9_year 199 = .ok (.ixor, 1) := by decide +kernel
theorem dX9_year_200 : decode cX9_year 200 = .ok (.iand, 1) := by decide +kernel
theorem dX9_year_201 : decode cX9_year 201 = .ok (.invokestatic 95, 3) := by decide +kernel
theorem dX9_year_204 : decode cX9_year 204 = .ok (.goto 7, 3) := by decide +kernel
theorem dX9_year_207 : decode cX9_year 207 = .ok (.aload_n 0, 1) := by decide +kernel
theorem dX9_year_208 : decode cX9_year 208 = .ok (.getfield 163, 3) := by decide +kernel
theorem dX9_year_211 : decode cX9_year 211 = .ok (.istore 5, 2) := by decide +kernel
theorem dX9_year_213 : decode cX9_year 213 = .ok (.aload_n 0, 1) := by decide +kernel
theorem dX9_year_214 : decode cX9_year 214 = .ok (.iload 5, 2) := by decide +kernel
theorem dX9_year_216 : decode cX9_year 216 = .ok (.invokevirtual 224, 3) := by decide +kernel
theorem dX9_year_219 : decode cX9_year 219 = .ok (.ireturn, 1) := by decide +kernel
theorem dX9_pass_0 : decode cX9_pass 0 = .ok (.aload_n 0, 1) := by decide +kernel
theorem dX9_pass_1 : decode cX9_pass 1 = .ok (.getfield 327, 3) := by decide +kernel
theorem dX9_pass_4 : decode cX9_pass 4 = .ok (.ifCond .eq 7, 3) := by decide +kernel
theorem dX9_pass_7 : decode cX9_pass 7 = .ok (.iload_n 1, 1) := by decide +kernel
theorem dX9_pass_8 : decode cX9_pass 8 = .ok (.goto 12, 3) := by decide +kernel
theorem dX9_pass_11 : decode cX9_pass 11 = .ok (.aload_n 0, 1) := by decide +kernel
theorem dX9_pass_12 : decode cX9_pass 12 = .ok (.getfield 68, 3) := by decide +kernel
theorem dX9_pass_15 : decode cX9_pass 15 = .ok (.aload_n 0, 1) := by decide +kernel
theorem dX9_pass_16 : decode cX9_pass 16 = .ok (.getfield 331, 3) := by decide +kernel
theorem dX9_pass_19 : decode cX9_pass 19 = .ok (.iaload, 1) := by decide +kernel
theorem dX9_pass_20 : decode cX9_pass 20 = .ok (.istore_n 2, 1) := by decide +kernel
theorem dX9_pass_21 : decode cX9_pass 21 = .ok (.aload_n 0, 1) := by decide +kernel
theorem dX9_pass_22 : decode cX9_pass 22 = .ok (.getfield 68, 3) := by decide +kernel
theorem dX9_pass_25 : decode cX9_pass 25 = .ok (.aload_n 0, 1) := by decide +kernel
theorem dX9_pass_26 : decode cX9_pass 26 = .ok (.getfield 331, 3) := by decide +kernel
theorem dX9_pass_29 : decode cX9_pass 29 = .ok (.iload_n 2, 1) := by decide +kernel
theorem dX9_pass_30 : decode cX9_pass 30 = .ok (.iastore, 1) := by decide +kernel
theorem dX9_pass_31 : decode cX9_pass 31 = .ok (.aload_n 0, 1) := by decide +kernel
theorem dX9_pass_32 : decode cX9_pass 32 = .ok (.dup, 1) := by decide +kernel
theorem dX9_pass_33 : decode cX9_pass 33 = .ok (.getfield 331, 3) := by decide +kernel
theorem dX9_pass_36 : decode cX9_pass 36 = .ok (.iconst 1, 1) := by decide +kernel
theorem dX9_pass_37 : decode cX9_pass 37 = .ok (.iadd, 1) := by decide +kernel
theorem dX9_pass_38 : decode cX9_pass 38 = .ok (.putfield 331, 3) := by decide +kernel
theorem dX9_pass_41 : decode cX9_pass 41 = .ok (.iload_n 2, 1) := by decide +kernel
theorem dX9_pass_42 : decode cX9_pass 42 = .ok (.ireturn, 1) := by decide +kernel
theorem dX9_passRow_0 : decode cX9_passRow 0 = .ok (.iconst 0, 1) := by decide +kernel
theorem dX9_passRow_1 : decode cX9_passRow 1 = .ok (.istore_n 3, 1) := by decide +kernel
theorem dX9_passRow_2 : decode cX9_passRow 2 = .ok (.iload_n 3, 1) := by decide +kernel
theorem dX9_passRow_3 : decode cX9_passRow 3 = .ok (.iload_n 2, 1) := by decide +kernel
theorem dX9_passRow_4 : decode cX9_passRow 4 = .ok (.if_icmp .ge 19, 3) := by decide +kernel
theorem dX9_passRow_7 : decode cX9_passRow 7 = .ok (.aload_n 1, 1) := by decide +kernel
theorem dX9_passRow_8 : decode cX9_passRow 8 = .ok (.iload_n 3, 1) := by decide +kernel
theorem dX9_passRow_9 : decode cX9_passRow 9 = .ok (.aload_n 0, 1) := by decide +kernel
theorem dX9_passRow_10 : decode cX9_passRow 10 = .ok (.aload_n 1, 1) := by decide +kernel
theorem dX9_passRow_11 : decode cX9_passRow 11 = .ok (.iload_n 3, 1) := by decide +kernel
theorem dX9_passRow_12 : decode cX9_passRow 12 = .ok (.iaload, 1) := by decide +kernel
theorem dX9_passRow_13 : decode cX9_passRow 13 = .ok (.invokevirtual 334, 3) := by decide +kernel
theorem dX9_passRow_16 : decode cX9_passRow 16 = .ok (.iastore, 1) := by decide +kernel
theorem dX9_passRow_17 : decode cX9_passRow 17 = .ok (.iinc 3 1, 3) := by decide +kernel
theorem dX9_passRow_20 : decode cX9_passRow 20 = .ok (.goto (-18), 3) := by decide +kernel
theorem dX9_passRow_23 : decode cX9_passRow 23 = .ok (.return_, 1) := by decide +kernel
theorem dX9_passAll_0 : decode cX9_passAll 0 = .ok (.aload_n 0, 1) := by decide +kernel
theorem dX9_passAll_1 : decode cX9_passAll 1 = .ok (.aload_n 0, 1) := by decide +kernel
theorem dX9_passAll_2 : decode cX9_passAll 2 = .ok (.aload_n 0, 1) := by decide +kernel
theorem dX9_passAll_3 : decode cX9_passAll 3 = .ok (.getfield 81, 3) := by decide +kernel
theorem dX9_passAll_6 : decode cX9_passAll 6 = .ok (.invokevirtual 334, 3) := by decide +kernel
theorem dX9_passAll_9 : decode cX9_passAll 9 = .ok (.putfield 81, 3) := by decide +kernel
theorem dX9_passAll_12 : decode cX9_passAll 12 = .ok (.aload_n 0, 1) := by decide +kernel
theorem dX9_passAll_13 : decode cX9_passAll 13 = .ok (.aload_n 0, 1) := by decide +kernel
theorem dX9_passAll_14 : decode cX9_passAll 14 = .ok (.aload_n 0, 1) := by decide +kernel
theorem dX9_passAll_15 : decode cX9_passAll 15 = .ok (.getfield 89, 3) := by decide +kernel
theorem dX9_passAll_18 : decode cX9_passAll 18 = .ok (.invokevirtual 334, 3) := by decide +kernel
theorem dX9_passAll_21 : decode cX9_passAll 21 = .ok (.putfield 89, 3) := by decide +kernel
theorem dX9_passAll_24 : decode cX9_passAll 24 = .ok (.aload_n 0, 1) := by decide +kernel
theorem dX9_passAll_25 : decode cX9_passAll 25 = .ok (.aload_n 0, 1) := by decide +kernel
theorem dX9_passAll_26 : decode cX9_passAll 26 = .ok (.aload_n 0, 1) := by decide +kernel
theorem dX9_passAll_27 : decode cX9_passAll 27 = .ok (.getfield 92, 3) := by decide +kernel
theorem dX9_passAll_30 : decode cX9_passAll 30 = .ok (.invokevirtual 334, 3) := by decide +kernel
theorem dX9_passAll_33 : decode cX9_passAll 33 = .ok (.putfield 92, 3) := by decide +kernel
theorem dX9_passAll_36 : decode cX9_passAll 36 = .ok (.aload_n 0, 1) := by decide +kernel
theorem dX9_passAll_37 : decode cX9_passAll 37 = .ok (.aload_n 0, 1) := by decide +kernel
theorem dX9_passAll_38 : decode cX9_passAll 38 = .ok (.aload_n 0, 1) := by decide +kernel
theorem dX9_passAll_39 : decode cX9_passAll 39 = .ok (.getfield 154, 3) := by decide +kernel
theorem dX9_passAll_42 : decode cX9_passAll 42 = .ok (.invokevirtual 334, 3) := by decide +kernel
theorem dX9_passAll_45 : decode cX9_passAll 45 = .ok (.putfield 154, 3) := by decide +kernel
theorem dX9_passAll_48 : decode cX9_passAll 48 = .ok (.aload_n 0, 1) := by decide +kernel
theorem dX9_passAll_49 : decode cX9_passAll 49 = .ok (.aload_n 0, 1) := by decide +kernel
theorem dX9_passAll_50 : decode cX9_passAll 50 = .ok (.aload_n 0, 1) := by decide +kernel
theorem dX9_passAll_51 : decode cX9_passAll 51 = .ok (.getfield 282, 3) := by decide +kernel
theorem dX9_passAll_54 : decode cX9_passAll 54 = .ok (.invokevirtual 334, 3) := by decide +kernel
theorem dX9_passAll_57 : decode cX9_passAll 57 = .ok (.putfield 282, 3) := by decide +kernel
theorem dX9_passAll_60 : decode cX9_passAll 60 = .ok (.aload_n 0, 1) := by decide +kernel
theorem dX9_passAll_61 : decode cX9_passAll 61 = .ok (.aload_n 0, 1) := by decide +kernel
theorem dX9_passAll_62 : decode cX9_passAll 62 = .ok (.getfield 7, 3) := by decide +kernel
theorem dX9_passAll_65 : decode cX9_passAll 65 = .ok (.bipush 8, 2) := by decide +kernel
theorem dX9_passAll_67 : decode cX9_passAll 67 = .ok (.invokevirtual 337, 3) := by decide +kernel
theorem dX9_passAll_70 : decode cX9_passAll 70 = .ok (.aload_n 0, 1) := by decide +kernel
theorem dX9_passAll_71 : decode cX9_passAll 71 = .ok (.aload_n 0, 1) := by decide +kernel
theorem dX9_passAll_72 : decode cX9_passAll 72 = .ok (.getfield 13, 3) := by decide +kernel
theorem dX9_passAll_75 : decode cX9_passAll 75 = .ok (.bipush 8, 2) := by decide +kernel
theorem dX9_passAll_77 : decode cX9_passAll 77 = .ok (.invokevirtual 337, 3) := by decide +kernel
theorem dX9_passAll_80 : decode cX9_passAll 80 = .ok (.aload_n 0, 1) := by decide +kernel
theorem dX9_passAll_81 : decode cX9_passAll 81 = .ok (.aload_n 0, 1) := by decide +kernel
theorem dX9_passAll_82 : decode cX9_passAll 82 = .ok (.getfield 16, 3) := by decide +kernel
theorem dX9_passAll_85 : decode cX9_passAll 85 = .ok (.bipush 24, 2) := by decide +kernel
theorem dX9_passAll_87 : decode cX9_passAll 87 = .ok (.invokevirtual 337, 3) := by decide +kernel
theorem dX9_passAll_90 : decode cX9_passAll 90 = .ok (.aload_n 0, 1) := by decide +kernel
theorem dX9_passAll_91 : decode cX9_passAll 91 = .ok (.aload_n 0, 1) := by decide +kernel
theorem dX9_passAll_92 : decode cX9_passAll 92 = .ok (.getfield 19, 3) := by decide +kernel
theorem dX9_passAll_95 : decode cX9_passAll 95 = .ok (.bipush 6, 2) := by decide +kernel
theorem dX9_passAll_97 : decode cX9_passAll 97 = .ok (.invokevirtual 337, 3) := by decide +kernel
theorem dX9_passAll_100 : decode cX9_passAll 100 = .ok (.aload_n 0, 1) := by decide +kernel
theorem dX9_passAll_101 : decode cX9_passAll 101 = .ok (.aload_n 0, 1) := by decide +kernel
theorem dX9_passAll_102 : decode cX9_passAll 102 = .ok (.getfield 22, 3) := by decide +kernel
theorem dX9_passAll_105 : decode cX9_passAll 105 = .ok (.bipush 6, 2) := by decide +kernel
theorem dX9_passAll_107 : decode cX9_passAll 107 = .ok (.invokevirtual 337, 3) := by decide +kernel
theorem dX9_passAll_110 : decode cX9_passAll 110 = .ok (.aload_n 0, 1) := by decide +kernel
theorem dX9_passAll_111 : decode cX9_passAll 111 = .ok (.aload_n 0, 1) := by decide +kernel
theorem dX9_passAll_112 : decode cX9_passAll 112 = .ok (.getfield 25, 3) := by decide +kernel
theorem dX9_passAll_115 : decode cX9_passAll 115 = .ok (.bipush 8, 2) := by decide +kernel
theorem dX9_passAll_117 : decode cX9_passAll 117 = .ok (.invokevirtual 337, 3) := by decide +kernel
theorem dX9_passAll_120 : decode cX9_passAll 120 = .ok (.aload_n 0, 1) := by decide +kernel
theorem dX9_passAll_121 : decode cX9_passAll 121 = .ok (.aload_n 0, 1) := by decide +kernel
theorem dX9_passAll_122 : decode cX9_passAll 122 = .ok (.getfield 28, 3) := by decide +kernel
theorem dX9_passAll_125 : decode cX9_passAll 125 = .ok (.bipush 8, 2) := by decide +kernel
theorem dX9_passAll_127 : decode cX9_passAll 127 = .ok (.invokevirtual 337, 3) := by decide +kernel
theorem dX9_passAll_130 : decode cX9_passAll 130 = .ok (.return_, 1) := by decide +kernel
theorem dX9_image_0 : decode cX9_image 0 = .ok (.iload_n 1, 1) := by decide +kernel
theorem dX9_image_1 : decode cX9_image 1 = .ok (.i2l, 1) := by decide +kernel
theorem dX9_image_2 : decode cX9_image 2 = .ok (.lconst 0, 1) := by decide +kernel
theorem dX9_image_3 : decode cX9_image 3 = .ok (.lconst 1, 1) := by decide +kernel
theorem dX9_image_4 : decode cX9_image 4 = .ok (.invokestatic 77, 3) := by decide +kernel
theorem dX9_image_7 : decode cX9_image 7 = .ok (.ifCond .ne 6, 3) := by decide +kernel
theorem dX9_image_10 : decode cX9_image 10 = .ok (.bipush (-2), 2) := by decide +kernel
theorem dX9_image_12 : decode cX9_image 12 = .ok (.ireturn, 1) := by decide +kernel
theorem dX9_image_13 : decode cX9_image 13 = .ok (.aload_n 0, 1) := by decide +kernel
theorem dX9_image_14 : decode cX9_image 14 = .ok (.bipush 90, 2) := by decide +kernel
theorem dX9_image_16 : decode cX9_image 16 = .ok (.iload_n 1, 1) := by decide +kernel
theorem dX9_image_17 : decode cX9_image 17 = .ok (.imul, 1) := by decide +kernel
theorem dX9_image_18 : decode cX9_image 18 = .ok (.putfield 331, 3) := by decide +kernel
theorem dX9_image_21 : decode cX9_image 21 = .ok (.aload_n 0, 1) := by decide +kernel
theorem dX9_image_22 : decode cX9_image 22 = .ok (.iconst 1, 1) := by decide +kernel
theorem dX9_image_23 : decode cX9_image 23 = .ok (.putfield 327, 3) := by decide +kernel
theorem dX9_image_26 : decode cX9_image 26 = .ok (.aload_n 0, 1) := by decide +kernel
theorem dX9_image_27 : decode cX9_image 27 = .ok (.invokevirtual 341, 3) := by decide +kernel
theorem dX9_image_30 : decode cX9_image 30 = .ok (.aload_n 0, 1) := by decide +kernel
theorem dX9_image_31 : decode cX9_image 31 = .ok (.getfield 71, 3) := by decide +kernel
theorem dX9_image_34 : decode cX9_image 34 = .ok (.iload_n 1, 1) := by decide +kernel
theorem dX9_image_35 : decode cX9_image 35 = .ok (.iconst 1, 1) := by decide +kernel
theorem dX9_image_36 : decode cX9_image 36 = .ok (.bastore, 1) := by decide +kernel
theorem dX9_image_37 : decode cX9_image 37 = .ok (.iconst 1, 1) := by decide +kernel
theorem dX9_image_38 : decode cX9_image 38 = .ok (.ireturn, 1) := by decide +kernel
theorem dX9_restore_0 : decode cX9_restore 0 = .ok (.iload_n 1, 1) := by decide +kernel
theorem dX9_restore_1 : decode cX9_restore 1 = .ok (.i2l, 1) := by decide +kernel
theorem dX9_restore_2 : decode cX9_restore 2 = .ok (.lconst 0, 1) := by decide +kernel
theorem dX9_restore_3 : decode cX9_restore 3 = .ok (.lconst 1, 1) := by decide +kernel
theorem dX9_restore_4 : decode cX9_restore 4 = .ok (.invokestatic 77, 3) := by decide +kernel
theorem dX9_restore_7 : decode cX9_restore 7 = .ok (.ifCond .ne 6, 3) := by decide +kernel
theorem dX9_restore_10 : decode cX9_restore 10 = .ok (.bipush (-2), 2) := by decide +kernel
theorem dX9_restore_12 : decode cX9_restore 12 = .ok (.ireturn, 1) := by decide +kernel
theorem dX9_restore_13 : decode cX9_restore 13 = .ok (.aload_n 0, 1) := by decide +kernel
theorem dX9_restore_14 : decode cX9_restore 14 = .ok (.getfield 71, 3) := by decide +kernel
theorem dX9_restore_17 : decode cX9_restore 17 = .ok (.iload_n 1, 1) := by decide +kernel
theorem dX9_restore_18 : decode cX9_restore 18 = .ok (.baload, 1) := by decide +kernel
theorem dX9_restore_19 : decode cX9_restore 19 = .ok (.ifCond .ne 6, 3) := by decide +kernel
theorem dX9_restore_22 : decode cX9_restore 22 = .ok (.bipush (-3), 2) := by decide +kernel
theorem dX9_restore_24 : decode cX9_restore 24 = .ok (.ireturn, 1) := by decide +kernel
theorem dX9_restore_25 : decode cX9_restore 25 = .ok (.aload_n 0, 1) := by decide +kernel
theorem dX9_restore_26 : decode cX9_restore 26 = .ok (.bipush 90, 2) := by decide +kernel
theorem dX9_restore_28 : decode cX9_restore 28 = .ok (.iload_n 1, 1) := by decide +kernel
theorem dX9_restore_29 : decode cX9_restore 29 = .ok (.imul, 1) := by decide +kernel
theorem dX9_restore_30 : decode cX9_restore 30 = .ok (.putfield 331, 3) := by decide +kernel
theorem dX9_restore_33 : decode cX9_restore 33 = .ok (.aload_n 0, 1) := by decide +kernel
theorem dX9_restore_34 : decode cX9_restore 34 = .ok (.iconst 0, 1) := by decide +kernel
theorem dX9_restore_35 : decode cX9_restore 35 = .ok (.putfield 327, 3) := by decide +kernel
theorem dX9_restore_38 : decode cX9_restore 38 = .ok (.aload_n 0, 1) := by decide +kernel
theorem dX9_restore_39 : decode cX9_restore 39 = .ok (.invokevirtual 341, 3) := by decide +kernel
theorem dX9_restore_42 : decode cX9_restore 42 = .ok (.iconst 1, 1) := by decide +kernel
theorem dX9_restore_43 : decode cX9_restore 43 = .ok (.ireturn, 1) := by decide +kernel
theorem dX9_toldOfSinger_0 : decode cX9_toldOfSinger 0 = .ok (.aload_n 0, 1) := by decide +kernel
theorem dX9_toldOfSinger_1 : decode cX9_toldOfSinger 1 = .ok (.iload_n 1, 1) := by decide +kernel
theorem dX9_toldOfSinger_2 : decode cX9_toldOfSinger 2 = .ok (.invokevirtual 99, 3) := by decide +kernel
theorem dX9_toldOfSinger_5 : decode cX9_toldOfSinger 5 = .ok (.ifCond .ne 6, 3) := by decide +kernel
theorem dX9_toldOfSinger_8 : decode cX9_toldOfSinger 8 = .ok (.bipush (-2), 2) := by decide +kernel
theorem dX9_toldOfSinger_10 : decode cX9_toldOfSinger 10 = .ok (.ireturn, 1) := by decide +kernel
theorem dX9_toldOfSinger_11 : decode cX9_toldOfSinger 11 = .ok (.iload_n 2, 1) := by decide +kernel
theorem dX9_toldOfSinger_12 : decode cX9_toldOfSinger 12 = .ok (.ifCond .ne 12, 3) := by decide +kernel
theorem dX9_toldOfSinger_15 : decode cX9_toldOfSinger 15 = .ok (.aload_n 0, 1) := by decide +kernel
theorem dX9_toldOfSinger_16 : decode cX9_toldOfSinger 16 = .ok (.getfield 7, 3) := by decide +kernel
theorem dX9_toldOfSinger_19 : decode cX9_toldOfSinger 19 = .ok (.iload_n 1, 1) := by decide +kernel
theorem dX9_toldOfSinger_20 : decode cX9_toldOfSinger 20 = .ok (.iaload, 1) := by decide +kernel
theorem dX9_toldOfSinger_21 : decode cX9_toldOfSinger 21 = .ok (.goto 51, 3) := by decide +kernel
theorem dX9_toldOfSinger_24 : decode cX9_toldOfSinger 24 = .ok (.iload_n 2, 1) := by decide +kernel
theorem dX9_toldOfSinger_25 : decode cX9_toldOfSinger 25 = .ok (.iconst 1, 1) := by decide +kernel
theorem dX9_toldOfSinger_26 : decode cX9_toldOfSinger 26 = .ok (.if_icmp .ne 12, 3) := by decide +kernel
theorem dX9_toldOfSinger_29 : decode cX9_toldOfSinger 29 = .ok (.aload_n 0, 1) := by decide +kernel
theorem dX9_toldOfSinger_30 : decode cX9_toldOfSinger 30 = .ok (.getfield 13, 3) := by decide +kernel
theorem dX9_toldOfSinger_33 : decode cX9_toldOfSinger 33 = .ok (.iload_n 1, 1) := by decide +kernel
theorem dX9_toldOfSinger_34 : decode cX9_toldOfSinger 34 = .ok (.iaload, 1) := by decide +kernel
theorem dX9_toldOfSinger_35 : decode cX9_toldOfSinger 35 = .ok (.goto 37, 3) := by decide +kernel
theorem dX9_toldOfSinger_38 : decode cX9_toldOfSinger 38 = .ok (.iload_n 2, 1) := by decide +kernel
theorem dX9_toldOfSinger_39 : decode cX9_toldOfSinger 39 = .ok (.iconst 2, 1) := by decide +kernel
theorem dX9_toldOfSinger_40 : decode cX9_toldOfSinger 40 = .ok (.if_icmp .ne 14, 3) := by decide +kernel
theorem dX9_toldOfSinger_43 : decode cX9_toldOfSinger 43 = .ok (.aload_n 0, 1) := by decide +kernel
theorem dX9_toldOfSinger_44 : decode cX9_toldOfSinger 44 = .ok (.getfield 89, 3) := by decide +kernel
theorem dX9_toldOfSinger_47 : decode cX9_toldOfSinger 47 = .ok (.iload_n 1, 1) := by decide +kernel
theorem dX9_toldOfSinger_48 : decode cX9_toldOfSinger 48 = .ok (.ishr, 1) := by decide +kernel
theorem dX9_toldOfSinger_49 : decode cX9_toldOfSinger 49 = .ok (.iconst 1, 1) := by decide +kernel
theorem dX9_toldOfSinger_50 : decode cX9_toldOfSinger 50 = .ok (.iand, 1) := by decide +kernel
theorem dX9_toldOfSinger_51 : decode cX9_toldOfSinger 51 = .ok (.goto 21, 3) := by decide +kernel
theorem dX9_toldOfSinger_54 : decode cX9_toldOfSinger 54 = .ok (.iload_n 2, 1) := by decide +kernel
theorem dX9_toldOfSinger_55 : decode cX9_toldOfSinger 55 = .ok (.iconst 3, 1) := by decide +kernel
theorem dX9_toldOfSinger_56 : decode cX9_toldOfSinger 56 = .ok (.if_icmp .ne 14, 3) := by decide +kernel
theorem dX9_toldOfSinger_59 : decode cX9_toldOfSinger 59 = .ok (.aload_n 0, 1) := by decide +kernel
theorem dX9_toldOfSinger_60 : decode cX9_toldOfSinger 60 = .ok (.getfield 92, 3) := by decide +kernel
theorem dX9_toldOfSinger_63 : decode cX9_toldOfSinger 63 = .ok (.iload_n 1, 1) := by decide +kernel
theorem dX9_toldOfSinger_64 : decode cX9_toldOfSinger 64 = .ok (.ishr, 1) := by decide +kernel
theorem dX9_toldOfSinger_65 : decode cX9_toldOfSinger 65 = .ok (.iconst 1, 1) := by decide +kernel
theorem dX9_toldOfSinger_66 : decode cX9_toldOfSinger 66 = .ok (.iand, 1) := by decide +kernel
theorem dX9_toldOfSinger_67 : decode cX9_toldOfSinger 67 = .ok (.goto 5, 3) := by decide +kernel
theorem dX9_toldOfSinger_70 : decode cX9_toldOfSinger 70 = .ok (.bipush (-2), 2) := by decide +kernel
theorem dX9_toldOfSinger_72 : decode cX9_toldOfSinger 72 = .ok (.ireturn, 1) := by decide +kernel
theorem dX9_toldOfPiece_0 : decode cX9_toldOfPiece 0 = .ok (.iload_n 2, 1) := by decide +kernel
theorem dX9_toldOfPiece_1 : decode cX9_toldOfPiece 1 = .ok (.iconst 4, 1) := by decide +kernel
theorem dX9_toldOfPiece_2 : decode cX9_toldOfPiece 2 = .ok (.if_icmp .ge 16, 3) := by decide +kernel
theorem dX9_toldOfPiece_5 : decode cX9_toldOfPiece 5 = .ok (.aload_n 0, 1) := by decide +kernel
theorem dX9_toldOfPiece_6 : decode cX9_toldOfPiece 6 = .ok (.getfield 16, 3) := by decide +kernel
theorem dX9_toldOfPiece_9 : decode cX9_toldOfPiece 9 = .ok (.iconst 4, 1) := by decide +kernel
theorem dX9_toldOfPiece_10 : decode cX9_toldOfPiece 10 = .ok (.iload_n 1, 1) := by decide +kernel
theorem dX9_toldOfPiece_11 : decode cX9_toldOfPiece 11 = .ok (.imul, 1) := by decide +kernel
theorem dX9_toldOfPiece_12 : decode cX9_toldOfPiece 12 = .ok (.iload_n 2, 1) := by decide +kernel
theorem dX9_toldOfPiece_13 : decode cX9_toldOfPiece 13 = .ok (.iadd, 1) := by decide +kernel
theorem dX9_toldOfPiece_14 : decode cX9_toldOfPiece 14 = .ok (.iaload, 1) := by decide +kernel
theorem dX9_toldOfPiece_15 : decode cX9_toldOfPiece 15 = .ok (.goto 33, 3) := by decide +kernel
theorem dX9_toldOfPiece_18 : decode cX9_toldOfPiece 18 = .ok (.iload_n 2, 1) := by decide +kernel
theorem dX9_toldOfPiece_19 : decode cX9_toldOfPiece 19 = .ok (.iconst 4, 1) := by decide +kernel
theorem dX9_toldOfPiece_20 : decode cX9_toldOfPiece 20 = .ok (.if_icmp .ne 12, 3) := by decide +kernel
theorem dX9_toldOfPiece_23 : decode cX9_toldOfPiece 23 = .ok (.aload_n 0, 1) := by decide +kernel
theorem dX9_toldOfPiece_24 : decode cX9_toldOfPiece 24 = .ok (.getfield 19, 3) := by decide +kernel
theorem dX9_toldOfPiece_27 : decode cX9_toldOfPiece 27 = .ok (.iload_n 1, 1) := by decide +kernel
theorem dX9_toldOfPiece_28 : decode cX9_toldOfPiece 28 = .ok (.iaload, 1) := by decide +kernel
theorem dX9_toldOfPiece_29 : decode cX9_toldOfPiece 29 = .ok (.goto 19, 3) := by decide +kernel
theorem dX9_toldOfPiece_32 : decode cX9_toldOfPiece 32 = .ok (.iload_n 2, 1) := by decide +kernel
theorem dX9_toldOfPiece_33 : decode cX9_toldOfPiece 33 = .ok (.iconst 5, 1) := by decide +kernel
theorem dX9_toldOfPiece_34 : decode cX9_toldOfPiece 34 = .ok (.if_icmp .ne 12, 3) := by decide +kernel
theorem dX9_toldOfPiece_37 : decode cX9_toldOfPiece 37 = .ok (.aload_n 0, 1) := by decide +kernel
theorem dX9_toldOfPiece_38 : decode cX9_toldOfPiece 38 = .ok (.getfield 22, 3) := by decide +kernel
theorem dX9_toldOfPiece_41 : decode cX9_toldOfPiece 41 = .ok (.iload_n 1, 1) := by decide +kernel
theorem dX9_toldOfPiece_42 : decode cX9_toldOfPiece 42 = .ok (.iaload, 1) := by decide +kernel
theorem dX9_toldOfPiece_43 : decode cX9_toldOfPiece 43 = .ok (.goto 5, 3) := by decide +kernel
theorem dX9_toldOfPiece_46 : decode cX9_toldOfPiece 46 = .ok (.bipush (-2), 2) := by decide +kernel
theorem dX9_toldOfPiece_48 : decode cX9_toldOfPiece 48 = .ok (.ireturn, 1) := by decide +kernel
theorem dX9_told_0 : decode cX9_told 0 = .ok (.iload_n 1, 1) := by decide +kernel
theorem dX9_told_1 : decode cX9_told 1 = .ok (.i2l, 1) := by decide +kernel
theorem dX9_told_2 : decode cX9_told 2 = .ok (.ldc2_w 344, 3) := by decide +kernel
theorem dX9_told_5 : decode cX9_told 5 = .ok (.ldc2_w 346, 3) := by decide +kernel
theorem dX9_told_8 : decode cX9_told 8 = .ok (.invokestatic 77, 3) := by decide +kernel
theorem dX9_told_11 : decode cX9_told 11 = .ok (.ifCond .eq 19, 3) := by decide +kernel
theorem dX9_told_14 : decode cX9_told 14 = .ok (.aload_n 0, 1) := by decide +kernel
theorem dX9_told_15 : decode cX9_told 15 = .ok (.iload_n 1, 1) := by decide +kernel
theorem dX9_told_16 : decode cX9_told 16 = .ok (.bipush 100, 2) := by decide +kernel
theorem dX9_told_18 : decode cX9_told 18 = .ok (.isub, 1) := by decide +kernel
theorem dX9_told_19 : decode cX9_told 19 = .ok (.bipush 10, 2) := by decide +kernel
theorem dX9_told_21 : decode cX9_told 21 = .ok (.idiv, 1) := by decide +kernel
theorem dX9_told_22 : decode cX9_told 22 = .ok (.iload_n 1, 1) := by decide +kernel
theorem dX9_told_23 : decode cX9_told 23 = .ok (.bipush 10, 2) := by decide +kernel
theorem dX9_told_25 : decode cX9_told 25 = .ok (.irem, 1) := by decide +kernel
theorem dX9_told_26 : decode cX9_told 26 = .ok (.invokevirtual 348, 3) := by decide +kernel
theorem dX9_told_29 : decode cX9_told 29 = .ok (.ireturn, 1) := by decide +kernel
theorem dX9_told_30 : decode cX9_told 30 = .ok (.iload_n 1, 1) := by decide +kernel
theorem dX9_told_31 : decode cX9_told 31 = .ok (.i2l, 1) := by decide +kernel
theorem dX9_told_32 : decode cX9_told 32 = .ok (.ldc2_w 298, 3) := by decide +kernel
theorem dX9_told_35 : decode cX9_told 35 = .ok (.ldc2_w 351, 3) := by decide +kernel
theorem dX9_told_38 : decode cX9_told 38 = .ok (.invokestatic 77, 3) := by decide +kernel
theorem dX9_told_41 : decode cX9_told 41 = .ok (.ifCond .eq 18, 3) := by decide +kernel
theorem dX9_told_44 : decode cX9_told 44 = .ok (.aload_n 0, 1) := by decide +kernel
theorem dX9_told_45 : decode cX9_told 45 = .ok (.iload_n 1, 1) := by decide +kernel
theorem dX9_told_46 : decode cX9_told 46 = .ok (.bipush 10, 2) := by decide +kernel
theorem dX9_told_48 : decode cX9_told 48 = .ok (.idiv, 1) := by decide +kernel
theorem dX9_told_49 : decode cX9_told 49 = .ok (.iconst 1, 1) := by decide +kernel
theorem dX9_told_50 : decode cX9_told 50 = .ok (.isub, 1) := by decide +kernel
theorem dX9_told_51 : decode cX9_told 51 = .ok (.iload_n 1, 1) := by decide +kernel
theorem dX9_told_52 : decode cX9_told 52 = .ok (.bipush 10, 2) := by decide +kernel
theorem dX9_told_54 : decode cX9_told 54 = .ok (.irem, 1) := by decide +kernel
theorem dX9_told_55 : decode cX9_told 55 = .ok (.invokevirtual 353, 3) := by decide +kernel
theorem dX9_told_58 : decode cX9_told 58 = .ok (.ireturn, 1) := by decide +kernel
theorem dX9_told_59 : decode cX9_told 59 = .ok (.iload_n 1, 1) := by decide +kernel
theorem dX9_told_60 : decode cX9_told 60 = .ok (.tableswitch 52 0 3 #[32, 37, 42, 47], 32) := by decide +kernel
theorem dX9_told_92 : decode cX9_told 92 = .ok (.aload_n 0, 1) := by decide +kernel
theorem dX9_told_93 : decode cX9_told 93 = .ok (.getfield 118, 3) := by decide +kernel
theorem dX9_told_96 : decode cX9_told 96 = .ok (.ireturn, 1) := by decide +kernel
theorem dX9_told_97 : decode cX9_told 97 = .ok (.aload_n 0, 1) := by decide +kernel
theorem dX9_told_98 : decode cX9_told 98 = .ok (.getfield 81, 3) := by decide +kernel
theorem dX9_told_101 : decode cX9_told 101 = .ok (.ireturn, 1) := by decide +kernel
theorem dX9_told_102 : decode cX9_told 102 = .ok (.aload_n 0, 1) := by decide +kernel
theorem dX9_told_103 : decode cX9_told 103 = .ok (.getfield 154, 3) := by decide +kernel
theorem dX9_told_106 : decode cX9_told 106 = .ok (.ireturn, 1) := by decide +kernel
theorem dX9_told_107 : decode cX9_told 107 = .ok (.aload_n 0, 1) := by decide +kernel
theorem dX9_told_108 : decode cX9_told 108 = .ok (.getfield 282, 3) := by decide +kernel
theorem dX9_told_111 : decode cX9_told 111 = .ok (.ireturn, 1) := by decide +kernel
theorem dX9_told_112 : decode cX9_told 112 = .ok (.bipush (-2), 2) := by decide +kernel
theorem dX9_told_114 : decode cX9_told 114 = .ok (.ireturn, 1) := by decide +kernel
