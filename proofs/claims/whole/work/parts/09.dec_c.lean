theorem dX0_init_0 : decode cX0_init 0 = .ok (.aload_n 0, 1) := by decide +kernel
theorem dX0_init_1 : decode cX0_init 1 = .ok (.invokespecial 3, 3) := by decide +kernel
theorem dX0_init_4 : decode cX0_init 4 = .ok (.aload_n 0, 1) := by decide +kernel
theorem dX0_init_5 : decode cX0_init 5 = .ok (.bipush 8, 2) := by decide +kernel
theorem dX0_init_7 : decode cX0_init 7 = .ok (.newarray .int, 2) := by decide +kernel
theorem dX0_init_9 : decode cX0_init 9 = .ok (.putfield 9, 3) := by decide +kernel
theorem dX0_init_12 : decode cX0_init 12 = .ok (.aload_n 0, 1) := by decide +kernel
theorem dX0_init_13 : decode cX0_init 13 = .ok (.bipush 8, 2) := by decide +kernel
theorem dX0_init_15 : decode cX0_init 15 = .ok (.newarray .int, 2) := by decide +kernel
theorem dX0_init_17 : decode cX0_init 17 = .ok (.putfield 15, 3) := by decide +kernel
theorem dX0_init_20 : decode cX0_init 20 = .ok (.aload_n 0, 1) := by decide +kernel
theorem dX0_init_21 : decode cX0_init 21 = .ok (.bipush 24, 2) := by decide +kernel
theorem dX0_init_23 : decode cX0_init 23 = .ok (.newarray .int, 2) := by decide +kernel
theorem dX0_init_25 : decode cX0_init 25 = .ok (.putfield 18, 3) := by decide +kernel
theorem dX0_init_28 : decode cX0_init 28 = .ok (.aload_n 0, 1) := by decide +kernel
theorem dX0_init_29 : decode cX0_init 29 = .ok (.bipush 6, 2) := by decide +kernel
theorem dX0_init_31 : decode cX0_init 31 = .ok (.newarray .int, 2) := by decide +kernel
theorem dX0_init_33 : decode cX0_init 33 = .ok (.putfield 21, 3) := by decide +kernel
theorem dX0_init_36 : decode cX0_init 36 = .ok (.aload_n 0, 1) := by decide +kernel
theorem dX0_init_37 : decode cX0_init 37 = .ok (.bipush 6, 2) := by decide +kernel
theorem dX0_init_39 : decode cX0_init 39 = .ok (.newarray .int, 2) := by decide +kernel
theorem dX0_init_41 : decode cX0_init 41 = .ok (.putfield 24, 3) := by decide +kernel
theorem dX0_init_44 : decode cX0_init 44 = .ok (.return_, 1) := by decide +kernel
theorem dX0_copyFrom_0 : decode cX0_copyFrom 0 = .ok (.aload_n 0, 1) := by decide +kernel
theorem dX0_copyFrom_1 : decode cX0_copyFrom 1 = .ok (.aload_n 1, 1) := by decide +kernel
theorem dX0_copyFrom_2 : decode cX0_copyFrom 2 = .ok (.getfield 27, 3) := by decide +kernel
theorem dX0_copyFrom_5 : decode cX0_copyFrom 5 = .ok (.putfield 27, 3) := by decide +kernel
theorem dX0_copyFrom_8 : decode cX0_copyFrom 8 = .ok (.aload_n 0, 1) := by decide +kernel
theorem dX0_copyFrom_9 : decode cX0_copyFrom 9 = .ok (.aload_n 1, 1) := by decide +kernel
theorem dX0_copyFrom_10 : decode cX0_copyFrom 10 = .ok (.getfield 31, 3) := by decide +kernel
theorem dX0_copyFrom_13 : decode cX0_copyFrom 13 = .ok (.putfield 31, 3) := by decide +kernel
theorem dX0_copyFrom_16 : decode cX0_copyFrom 16 = .ok (.aload_n 0, 1) := by decide +kernel
theorem dX0_copyFrom_17 : decode cX0_copyFrom 17 = .ok (.aload_n 1, 1) := by decide +kernel
theorem dX0_copyFrom_18 : decode cX0_copyFrom 18 = .ok (.getfield 34, 3) := by decide +kernel
theorem dX0_copyFrom_21 : decode cX0_copyFrom 21 = .ok (.putfield 34, 3) := by decide +kernel
theorem dX0_copyFrom_24 : decode cX0_copyFrom 24 = .ok (.aload_n 0, 1) := by decide +kernel
theorem dX0_copyFrom_25 : decode cX0_copyFrom 25 = .ok (.aload_n 1, 1) := by decide +kernel
theorem dX0_copyFrom_26 : decode cX0_copyFrom 26 = .ok (.getfield 37, 3) := by decide +kernel
theorem dX0_copyFrom_29 : decode cX0_copyFrom 29 = .ok (.putfield 37, 3) := by decide +kernel
theorem dX0_copyFrom_32 : decode cX0_copyFrom 32 = .ok (.aload_n 0, 1) := by decide +kernel
theorem dX0_copyFrom_33 : decode cX0_copyFrom 33 = .ok (.iconst 0, 1) := by decide +kernel
theorem dX0_copyFrom_34 : decode cX0_copyFrom 34 = .ok (.putfield 40, 3) := by decide +kernel
theorem dX0_copyFrom_37 : decode cX0_copyFrom 37 = .ok (.aload_n 1, 1) := by decide +kernel
theorem dX0_copyFrom_38 : decode cX0_copyFrom 38 = .ok (.getfield 9, 3) := by decide +kernel
theorem dX0_copyFrom_41 : decode cX0_copyFrom 41 = .ok (.iconst 0, 1) := by decide +kernel
theorem dX0_copyFrom_42 : decode cX0_copyFrom 42 = .ok (.aload_n 0, 1) := by decide +kernel
theorem dX0_copyFrom_43 : decode cX0_copyFrom 43 = .ok (.getfield 9, 3) := by decide +kernel
theorem dX0_copyFrom_46 : decode cX0_copyFrom 46 = .ok (.iconst 0, 1) := by decide +kernel
theorem dX0_copyFrom_47 : decode cX0_copyFrom 47 = .ok (.bipush 8, 2) := by decide +kernel
theorem dX0_copyFrom_49 : decode cX0_copyFrom 49 = .ok (.invokestatic 43, 3) := by decide +kernel
theorem dX0_copyFrom_52 : decode cX0_copyFrom 52 = .ok (.aload_n 1, 1) := by decide +kernel
theorem dX0_copyFrom_53 : decode cX0_copyFrom 53 = .ok (.getfield 15, 3) := by decide +kernel
theorem dX0_copyFrom_56 : decode cX0_copyFrom 56 = .ok (.iconst 0, 1) := by decide +kernel
theorem dX0_copyFrom_57 : decode cX0_copyFrom 57 = .ok (.aload_n 0, 1) := by decide +kernel
theorem dX0_copyFrom_58 : decode cX0_copyFrom 58 = .ok (.getfield 15, 3) := by decide +kernel
theorem dX0_copyFrom_61 : decode cX0_copyFrom 61 = .ok (.iconst 0, 1) := by decide +kernel
theorem dX0_copyFrom_62 : decode cX0_copyFrom 62 = .ok (.bipush 8, 2) := by decide +kernel
theorem dX0_copyFrom_64 : decode cX0_copyFrom 64 = .ok (.invokestatic 43, 3) := by decide +kernel
theorem dX0_copyFrom_67 : decode cX0_copyFrom 67 = .ok (.aload_n 1, 1) := by decide +kernel
theorem dX0_copyFrom_68 : decode cX0_copyFrom 68 = .ok (.getfield 18, 3) := by decide +kernel
theorem dX0_copyFrom_71 : decode cX0_copyFrom 71 = .ok (.iconst 0, 1) := by decide +kernel
theorem dX0_copyFrom_72 : decode cX0_copyFrom 72 = .ok (.aload_n 0, 1) := by decide +kernel
theorem dX0_copyFrom_73 : decode cX0_copyFrom 73 = .ok (.getfield 18, 3) := by decide +kernel
theorem dX0_copyFrom_76 : decode cX0_copyFrom 76 = .ok (.iconst 0, 1) := by decide +kernel
theorem dX0_copyFrom_77 : decode cX0_copyFrom 77 = .ok (.bipush 24, 2) := by decide +kernel
theorem dX0_copyFrom_79 : decode cX0_copyFrom 79 = .ok (.invokestatic 43, 3) := by decide +kernel
theorem dX0_copyFrom_82 : decode cX0_copyFrom 82 = .ok (.aload_n 1, 1) := by decide +kernel
theorem dX0_copyFrom_83 : decode cX0_copyFrom 83 = .ok (.getfield 21, 3) := by decide +kernel
theorem dX0_copyFrom_86 : decode cX0_copyFrom 86 = .ok (.iconst 0, 1) := by decide +kernel
theorem dX0_copyFrom_87 : decode cX0_copyFrom 87 = .ok (.aload_n 0, 1) := by decide +kernel
theorem dX0_copyFrom_88 : decode cX0_copyFrom 88 = .ok (.getfield 21, 3) := by decide +kernel
theorem dX0_copyFrom_91 : decode cX0_copyFrom 91 = .ok (.iconst 0, 1) := by decide +kernel
theorem dX0_copyFrom_92 : decode cX0_copyFrom 92 = .ok (.bipush 6, 2) := by decide +kernel
theorem dX0_copyFrom_94 : decode cX0_copyFrom 94 = .ok (.invokestatic 43, 3) := by decide +kernel
theorem dX0_copyFrom_97 : decode cX0_copyFrom 97 = .ok (.aload_n 1, 1) := by decide +kernel
theorem dX0_copyFrom_98 : decode cX0_copyFrom 98 = .ok (.getfield 24, 3) := by decide +kernel
theorem dX0_copyFrom_101 : decode cX0_copyFrom 101 = .ok (.iconst 0, 1) := by decide +kernel
theorem dX0_copyFrom_102 : decode cX0_copyFrom 102 = .ok (.aload_n 0, 1) := by decide +kernel
theorem dX0_copyFrom_103 : decode cX0_copyFrom 103 = .ok (.getfield 24, 3) := by decide +kernel
theorem dX0_copyFrom_106 : decode cX0_copyFrom 106 = .ok (.iconst 0, 1) := by decide +kernel
theorem dX0_copyFrom_107 : decode cX0_copyFrom 107 = .ok (.bipush 6, 2) := by decide +kernel
theorem dX0_copyFrom_109 : decode cX0_copyFrom 109 = .ok (.invokestatic 43, 3) := by decide +kernel
theorem dX0_copyFrom_112 : decode cX0_copyFrom 112 = .ok (.return_, 1) := by decide +kernel
theorem dX0_has_0 : decode cX0_has 0 = .ok (.iload_n 1, 1) := by decide +kernel
theorem dX0_has_1 : decode cX0_has 1 = .ok (.ifCond .lt 25, 3) := by decide +kernel
theorem dX0_has_4 : decode cX0_has 4 = .ok (.iload_n 1, 1) := by decide +kernel
theorem dX0_has_5 : decode cX0_has 5 = .ok (.bipush 8, 2) := by decide +kernel
theorem dX0_has_7 : decode cX0_has 7 = .ok (.if_icmp .ge 19, 3) := by decide +kernel
theorem dX0_has_10 : decode cX0_has 10 = .ok (.aload_n 0, 1) := by decide +kernel
theorem dX0_has_11 : decode cX0_has 11 = .ok (.getfield 27, 3) := by decide +kernel
theorem dX0_has_14 : decode cX0_has 14 = .ok (.iload_n 1, 1) := by decide +kernel
theorem dX0_has_15 : decode cX0_has 15 = .ok (.ishr, 1) := by decide +kernel
theorem dX0_has_16 : decode cX0_has 16 = .ok (.iconst 1, 1) := by decide +kernel
theorem dX0_has_17 : decode cX0_has 17 = .ok (.iand, 1) := by decide +kernel
theorem dX0_has_18 : decode cX0_has 18 = .ok (.iconst 1, 1) := by decide +kernel
theorem dX0_has_19 : decode cX0_has 19 = .ok (.if_icmp .ne 7, 3) := by decide +kernel
theorem dX0_has_22 : decode cX0_has 22 = .ok (.iconst 1, 1) := by decide +kernel
theorem dX0_has_23 : decode cX0_has 23 = .ok (.goto 4, 3) := by decide +kernel
theorem dX0_has_26 : decode cX0_has 26 = .ok (.iconst 0, 1) := by decide +kernel
theorem dX0_has_27 : decode cX0_has 27 = .ok (.ireturn, 1) := by decide +kernel
theorem dX0_come_0 : decode cX0_come 0 = .ok (.iload_n 1, 1) := by decide +kernel
theorem dX0_come_1 : decode cX0_come 1 = .ok (.iconst 0, 1) := by decide +kernel
theorem dX0_come_2 : decode cX0_come 2 = .ok (.bipush 7, 2) := by decide +kernel
theorem dX0_come_4 : decode cX0_come 4 = .ok (.invokestatic 49, 3) := by decide +kernel
theorem dX0_come_7 : decode cX0_come 7 = .ok (.ifCond .eq 57, 3) := by decide +kernel
theorem dX0_come_10 : decode cX0_come 10 = .ok (.aload_n 0, 1) := by decide +kernel
theorem dX0_come_11 : decode cX0_come 11 = .ok (.dup, 1) := by decide +kernel
theorem dX0_come_12 : decode cX0_come 12 = .ok (.getfield 27, 3) := by decide +kernel
theorem dX0_come_15 : decode cX0_come 15 = .ok (.iconst 1, 1) := by decide +kernel
theorem dX0_come_16 : decode cX0_come 16 = .ok (.iload_n 1, 1) := by decide +kernel
theorem dX0_come_17 : decode cX0_come 17 = .ok (.ishl, 1) := by decide +kernel
theorem dX0_come_18 : decode cX0_come 18 = .ok (.ior, 1) := by decide +kernel
theorem dX0_come_19 : decode cX0_come 19 = .ok (.putfield 27, 3) := by decide +kernel
theorem dX0_come_22 : decode cX0_come 22 = .ok (.aload_n 0, 1) := by decide +kernel
theorem dX0_come_23 : decode cX0_come 23 = .ok (.dup, 1) := by decide +kernel
theorem dX0_come_24 : decode cX0_come 24 = .ok (.getfield 31, 3) := by decide +kernel
theorem dX0_come_27 : decode cX0_come 27 = .ok (.iconst 1, 1) := by decide +kernel
theorem dX0_come_28 : decode cX0_come 28 = .ok (.iload_n 1, 1) := by decide +kernel
theorem dX0_come_29 : decode cX0_come 29 = .ok (.ishl, 1) := by decide +kernel
theorem dX0_come_30 : decode cX0_come 30 = .ok (.iconst (-1), 1) := by decide +kernel
theorem dX0_come_31 : decode cX0_come 31 = .ok (.ixor, 1) := by decide +kernel
theorem dX0_come_32 : decode cX0_come 32 = .ok (.iand, 1) := by decide +kernel
theorem dX0_come_33 : decode cX0_come 33 = .ok (.putfield 31, 3) := by decide +kernel
theorem dX0_come_36 : decode cX0_come 36 = .ok (.aload_n 0, 1) := by decide +kernel
theorem dX0_come_37 : decode cX0_come 37 = .ok (.dup, 1) := by decide +kernel
theorem dX0_come_38 : decode cX0_come 38 = .ok (.getfield 34, 3) := by decide +kernel
theorem dX0_come_41 : decode cX0_come 41 = .ok (.iconst 1, 1) := by decide +kernel
theorem dX0_come_42 : decode cX0_come 42 = .ok (.iload_n 1, 1) := by decide +kernel
theorem dX0_come_43 : decode cX0_come 43 = .ok (.ishl, 1) := by decide +kernel
theorem dX0_come_44 : decode cX0_come 44 = .ok (.iconst (-1), 1) := by decide +kernel
theorem dX0_come_45 : decode cX0_come 45 = .ok (.ixor, 1) := by decide +kernel
theorem dX0_come_46 : decode cX0_come 46 = .ok (.iand, 1) := by decide +kernel
theorem dX0_come_47 : decode cX0_come 47 = .ok (.putfield 34, 3) := by decide +kernel
theorem dX0_come_50 : decode cX0_come 50 = .ok (.aload_n 0, 1) := by decide +kernel
theorem dX0_come_51 : decode cX0_come 51 = .ok (.getfield 9, 3) := by decide +kernel
theorem dX0_come_54 : decode cX0_come 54 = .ok (.iload_n 1, 1) := by decide +kernel
theorem dX0_come_55 : decode cX0_come 55 = .ok (.iload_n 2, 1) := by decide +kernel
theorem dX0_come_56 : decode cX0_come 56 = .ok (.iastore, 1) := by decide +kernel
theorem dX0_come_57 : decode cX0_come 57 = .ok (.aload_n 0, 1) := by decide +kernel
theorem dX0_come_58 : decode cX0_come 58 = .ok (.getfield 15, 3) := by decide +kernel
theorem dX0_come_61 : decode cX0_come 61 = .ok (.iload_n 1, 1) := by decide +kernel
theorem dX0_come_62 : decode cX0_come 62 = .ok (.iload_n 3, 1) := by decide +kernel
theorem dX0_come_63 : decode cX0_come 63 = .ok (.iastore, 1) := by decide +kernel
theorem dX0_come_64 : decode cX0_come 64 = .ok (.return_, 1) := by decide +kernel
theorem dX0_go_0 : decode cX0_go 0 = .ok (.aload_n 0, 1) := by decide +kernel
theorem dX0_go_1 : decode cX0_go 1 = .ok (.iload_n 1, 1) := by decide +kernel
theorem dX0_go_2 : decode cX0_go 2 = .ok (.invokevirtual 53, 3) := by decide +kernel
theorem dX0_go_5 : decode cX0_go 5 = .ok (.ifCond .eq 24, 3) := by decide +kernel
theorem dX0_go_8 : decode cX0_go 8 = .ok (.aload_n 0, 1) := by decide +kernel
theorem dX0_go_9 : decode cX0_go 9 = .ok (.iload_n 1, 1) := by decide +kernel
theorem dX0_go_10 : decode cX0_go 10 = .ok (.iconst 0, 1) := by decide +kernel
theorem dX0_go_11 : decode cX0_go 11 = .ok (.iconst 0, 1) := by decide +kernel
theorem dX0_go_12 : decode cX0_go 12 = .ok (.invokevirtual 57, 3) := by decide +kernel
theorem dX0_go_15 : decode cX0_go 15 = .ok (.aload_n 0, 1) := by decide +kernel
theorem dX0_go_16 : decode cX0_go 16 = .ok (.dup, 1) := by decide +kernel
theorem dX0_go_17 : decode cX0_go 17 = .ok (.getfield 27, 3) := by decide +kernel
theorem dX0_go_20 : decode cX0_go 20 = .ok (.iconst 1, 1) := by decide +kernel
theorem dX0_go_21 : decode cX0_go 21 = .ok (.iload_n 1, 1) := by decide +kernel
theorem dX0_go_22 : decode cX0_go 22 = .ok (.ishl, 1) := by decide +kernel
theorem dX0_go_23 : decode cX0_go 23 = .ok (.iconst (-1), 1) := by decide +kernel
theorem dX0_go_24 : decode cX0_go 24 = .ok (.ixor, 1) := by decide +kernel
theorem dX0_go_25 : decode cX0_go 25 = .ok (.iand, 1) := by decide +kernel
theorem dX0_go_26 : decode cX0_go 26 = .ok (.putfield 27, 3) := by decide +kernel
theorem dX0_go_29 : decode cX0_go 29 = .ok (.return_, 1) := by decide +kernel
theorem dX0_voiceOf_0 : decode cX0_voiceOf 0 = .ok (.aload_n 0, 1) := by decide +kernel
theorem dX0_voiceOf_1 : decode cX0_voiceOf 1 = .ok (.iload_n 1, 1) := by decide +kernel
theorem dX0_voiceOf_2 : decode cX0_voiceOf 2 = .ok (.invokevirtual 53, 3) := by decide +kernel
theorem dX0_voiceOf_5 : decode cX0_voiceOf 5 = .ok (.ifCond .eq 12, 3) := by decide +kernel
theorem dX0_voiceOf_8 : decode cX0_voiceOf 8 = .ok (.aload_n 0, 1) := by decide +kernel
theorem dX0_voiceOf_9 : decode cX0_voiceOf 9 = .ok (.getfield 9, 3) := by decide +kernel
theorem dX0_voiceOf_12 : decode cX0_voiceOf 12 = .ok (.iload_n 1, 1) := by decide +kernel
theorem dX0_voiceOf_13 : decode cX0_voiceOf 13 = .ok (.iaload, 1) := by decide +kernel
theorem dX0_voiceOf_14 : decode cX0_voiceOf 14 = .ok (.goto 5, 3) := by decide +kernel
theorem dX0_voiceOf_17 : decode cX0_voiceOf 17 = .ok (.bipush (-6), 2) := by decide +kernel
theorem dX0_voiceOf_19 : decode cX0_voiceOf 19 = .ok (.ireturn, 1) := by decide +kernel
theorem dX0_debtOf_0 : decode cX0_debtOf 0 = .ok (.aload_n 0, 1) := by decide +kernel
theorem dX0_debtOf_1 : decode cX0_debtOf 1 = .ok (.iload_n 1, 1) := by decide +kernel
theorem dX0_debtOf_2 : decode cX0_debtOf 2 = .ok (.invokevirtual 53, 3) := by decide +kernel
theorem dX0_debtOf_5 : decode cX0_debtOf 5 = .ok (.ifCond .eq 12, 3) := by decide +kernel
theorem dX0_debtOf_8 : decode cX0_debtOf 8 = .ok (.aload_n 0, 1) := by decide +kernel
theorem dX0_debtOf_9 : decode cX0_debtOf 9 = .ok (.getfield 15, 3) := by decide +kernel
theorem dX0_debtOf_12 : decode cX0_debtOf 12 = .ok (.iload_n 1, 1) := by decide +kernel
theorem dX0_debtOf_13 : decode cX0_debtOf 13 = .ok (.iaload, 1) := by decide +kernel
theorem dX0_debtOf_14 : decode cX0_debtOf 14 = .ok (.goto 4, 3) := by decide +kernel
theorem dX0_debtOf_17 : decode cX0_debtOf 17 = .ok (.iconst 0, 1) := by decide +kernel
theorem dX0_debtOf_18 : decode cX0_debtOf 18 = .ok (.ireturn, 1) := by decide +kernel
theorem dX0_owe_0 : decode cX0_owe 0 = .ok (.aload_n 0, 1) := by decide +kernel
theorem dX0_owe_1 : decode cX0_owe 1 = .ok (.iload_n 1, 1) := by decide +kernel
theorem dX0_owe_2 : decode cX0_owe 2 = .ok (.invokevirtual 53, 3) := by decide +kernel
theorem dX0_owe_5 : decode cX0_owe 5 = .ok (.ifCond .eq 10, 3) := by decide +kernel
theorem dX0_owe_8 : decode cX0_owe 8 = .ok (.aload_n 0, 1) := by decide +kernel
theorem dX0_owe_9 : decode cX0_owe 9 = .ok (.getfield 15, 3) := by decide +kernel
theorem dX0_owe_12 : decode cX0_owe 12 = .ok (.iload_n 1, 1) := by decide +kernel
theorem dX0_owe_13 : decode cX0_owe 13 = .ok (.iload_n 2, 1) := by decide +kernel
theorem dX0_owe_14 : decode cX0_owe 14 = .ok (.iastore, 1) := by decide +kernel
theorem dX0_owe_15 : decode cX0_owe 15 = .ok (.return_, 1) := by decide +kernel
theorem dX0_allDebts_0 : decode cX0_allDebts 0 = .ok (.iconst 0, 1) := by decide +kernel
theorem dX0_allDebts_1 : decode cX0_allDebts 1 = .ok (.istore_n 1, 1) := by decide +kernel
theorem dX0_allDebts_2 : decode cX0_allDebts 2 = .ok (.iconst 0, 1) := by decide +kernel
theorem dX0_allDebts_3 : decode cX0_allDebts 3 = .ok (.istore_n 2, 1) := by decide +kernel
theorem dX0_allDebts_4 : decode cX0_allDebts 4 = .ok (.iload_n 2, 1) := by decide +kernel
theorem dX0_allDebts_5 : decode cX0_allDebts 5 = .ok (.bipush 8, 2) := by decide +kernel
theorem dX0_allDebts_7 : decode cX0_allDebts 7 = .ok (.if_icmp .ge 17, 3) := by decide +kernel
theorem dX0_allDebts_10 : decode cX0_allDebts 10 = .ok (.iload_n 1, 1) := by decide +kernel
theorem dX0_allDebts_11 : decode cX0_allDebts 11 = .ok (.aload_n 0, 1) := by decide +kernel
theorem dX0_allDebts_12 : decode cX0_allDebts 12 = .ok (.iload_n 2, 1) := by decide +kernel
theorem dX0_allDebts_13 : decode cX0_allDebts 13 = .ok (.invokevirtual 61, 3) := by decide +kernel
theorem dX0_allDebts_16 : decode cX0_allDebts 16 = .ok (.iadd, 1) := by decide +kernel
theorem dX0_allDebts_17 : decode cX0_allDebts 17 = .ok (.istore_n 1, 1) := by decide +kernel
theorem dX0_allDebts_18 : decode cX0_allDebts 18 = .ok (.iinc 2 1, 3) := by decide +kernel
theorem dX0_allDebts_21 : decode cX0_allDebts 21 = .ok (.goto (-17), 3) := by decide +kernel
theorem dX0_allDebts_24 : decode cX0_allDebts 24 = .ok (.iload_n 1, 1) := by decide +kernel
theorem dX0_allDebts_25 : decode cX0_allDebts 25 = .ok (.ireturn, 1) := by decide +kernel
theorem dX0_freeSingers_0 : decode cX0_freeSingers 0 = .ok (.iconst 0, 1) := by decide +kernel
theorem dX0_freeSingers_1 : decode cX0_freeSingers 1 = .ok (.istore_n 1, 1) := by decide +kernel
theorem dX0_freeSingers_2 : decode cX0_freeSingers 2 = .ok (.iconst 0, 1) := by decide +kernel
theorem dX0_freeSingers_3 : decode cX0_freeSingers 3 = .ok (.istore_n 2, 1) := by decide +kernel
theorem dX0_freeSingers_4 : decode cX0_freeSingers 4 = .ok (.iload_n 2, 1) := by decide +kernel
theorem dX0_freeSingers_5 : decode cX0_freeSingers 5 = .ok (.bipush 8, 2) := by decide +kernel
theorem dX0_freeSingers_7 : decode cX0_freeSingers 7 = .ok (.if_icmp .ge 24, 3) := by decide +kernel
theorem dX0_freeSingers_10 : decode cX0_freeSingers 10 = .ok (.aload_n 0, 1) := by decide +kernel
theorem dX0_freeSingers_11 : decode cX0_freeSingers 11 = .ok (.getfield 15, 3) := by decide +kernel
theorem dX0_freeSingers_14 : decode cX0_freeSingers 14 = .ok (.iload_n 2, 1) := by decide +kernel
theorem dX0_freeSingers_15 : decode cX0_freeSingers 15 = .ok (.iaload, 1) := by decide +kernel
theorem dX0_freeSingers_16 : decode cX0_freeSingers 16 = .ok (.ifCond .ne 9, 3) := by decide +kernel
theorem dX0_freeSingers_19 : decode cX0_freeSingers 19 = .ok (.iload_n 1, 1) := by decide +kernel
theorem dX0_freeSingers_20 : decode cX0_freeSingers 20 = .ok (.iconst 1, 1) := by decide +kernel
theorem dX0_freeSingers_21 : decode cX0_freeSingers 21 = .ok (.iload_n 2, 1) := by decide +kernel
theorem dX0_freeSingers_22 : decode cX0_freeSingers 22 = .ok (.ishl, 1) := by decide +kernel
theorem dX0_freeSingers_23 : decode cX0_freeSingers 23 = .ok (.ior, 1) := by decide +kernel
theorem dX0_freeSingers_24 : decode cX0_freeSingers 24 = .ok (.istore_n 1, 1) := by decide +kernel
theorem dX0_freeSingers_25 : decode cX0_freeSingers 25 = .ok (.iinc 2 1, 3) := by decide +kernel
theorem dX0_freeSingers_28 : decode cX0_freeSingers 28 = .ok (.goto (-24), 3) := by decide +kernel
theorem dX0_freeSingers_31 : decode cX0_freeSingers 31 = .ok (.iload_n 1, 1) := by decide +kernel
theorem dX0_freeSingers_32 : decode cX0_freeSingers 32 = .ok (.aload_n 0, 1) := by decide +kernel
theorem dX0_freeSingers_33 : decode cX0_freeSingers 33 = .ok (.getfield 27, 3) := by decide +kernel
theorem dX0_freeSingers_36 : decode cX0_freeSingers 36 = .ok (.iand, 1) := by decide +kernel
theorem dX0_freeSingers_37 : decode cX0_freeSingers 37 = .ok (.ireturn, 1) := by decide +kernel
theorem dX0_write_0 : decode cX0_write 0 = .ok (.iload_n 1, 1) := by decide +kernel
theorem dX0_write_1 : decode cX0_write 1 = .ok (.iconst 0, 1) := by decide +kernel
theorem dX0_write_2 : decode cX0_write 2 = .ok (.iconst 5, 1) := by decide +kernel
theorem dX0_write_3 : decode cX0_write 3 = .ok (.invokestatic 49, 3) := by decide +kernel
theorem dX0_write_6 : decode cX0_write 6 = .ok (.ifCond .eq 52, 3) := by decide +kernel
theorem dX0_write_9 : decode cX0_write 9 = .ok (.iconst 0, 1) := by decide +kernel
theorem dX0_write_10 : decode cX0_write 10 = .ok (.istore 5, 2) := by decide +kernel
theorem dX0_write_12 : decode cX0_write 12 = .ok (.iload 5, 2) := by decide +kernel
theorem dX0_write_14 : decode cX0_write 14 = .ok (.iconst 4, 1) := by decide +kernel
theorem dX0_write_15 : decode cX0_write 15 = .ok (.if_icmp .ge 28, 3) := by decide +kernel
theorem dX0_write_18 : decode cX0_write 18 = .ok (.aload_n 0, 1) := by decide +kernel
theorem dX0_write_19 : decode cX0_write 19 = .ok (.getfield 18, 3) := by decide +kernel
theorem dX0_write_22 : decode cX0_write 22 = .ok (.iload_n 1, 1) := by decide +kernel
theorem dX0_write_23 : decode cX0_write 23 = .ok (.iconst 4, 1) := by decide +kernel
theorem dX0_write_24 : decode cX0_write 24 = .ok (.imul, 1) := by decide +kernel
theorem dX0_write_25 : decode cX0_write 25 = .ok (.iload 5, 2) := by decide +kernel
theorem dX0_write_27 : decode cX0_write 27 = .ok (.iadd, 1) := by decide +kernel
theorem dX0_write_28 : decode cX0_write 28 = .ok (.iload_n 2, 1) := by decide +kernel
theorem dX0_write_29 : decode cX0_write 29 = .ok (.iconst 3, 1) := by decide +kernel
theorem dX0_write_30 : decode cX0_write 30 = .ok (.iload 5, 2) := by decide +kernel
theorem dX0_write_32 : decode cX0_write 32 = .ok (.isub, 1) := by decide +kernel
theorem dX0_write_33 : decode cX0_write 33 = .ok (.invokestatic 65, 3) := by decide +kernel
theorem dX0_write_36 : decode cX0_write 36 = .ok (.iastore, 1) := by decide +kernel
theorem dX0_write_37 : decode cX0_write 37 = .ok (.iinc 5 1, 3) := by decide +kernel
theorem dX0_write_40 : decode cX0_write 40 = .ok (.goto (-28), 3) := by decide +kernel
theorem dX0_write_43 : decode cX0_write 43 = .ok (.aload_n 0, 1) := by decide +kernel
theorem dX0_write_44 : decode cX0_write 44 = .ok (.getfield 21, 3) := by decide +kernel
theorem dX0_write_47 : decode cX0_write 47 = .ok (.iload_n 1, 1) := by decide +kernel
theorem dX0_write_48 : decode cX0_write 48 = .ok (.iload_n 3, 1) := by decide +kernel
theorem dX0_write_49 : decode cX0_write 49 = .ok (.iastore, 1) := by decide +kernel
theorem dX0_write_50 : decode cX0_write 50 = .ok (.aload_n 0, 1) := by decide +kernel
theorem dX0_write_51 : decode cX0_write 51 = .ok (.getfield 24, 3) := by decide +kernel
theorem dX0_write_54 : decode cX0_write 54 = .ok (.iload_n 1, 1) := by decide +kernel
theorem dX0_write_55 : decode cX0_write 55 = .ok (.iload 4, 2) := by decide +kernel
theorem dX0_write_57 : decode cX0_write 57 = .ok (.iastore, 1) := by decide +kernel
theorem dX0_write_58 : decode cX0_write 58 = .ok (.return_, 1) := by decide +kernel
theorem dX0_needOf_0 : decode cX0_needOf 0 = .ok (.iload_n 1, 1) := by decide +kernel
theorem dX0_needOf_1 : decode cX0_needOf 1 = .ok (.iconst 0, 1) := by decide +kernel
theorem dX0_needOf_2 : decode cX0_needOf 2 = .ok (.iconst 5, 1) := by decide +kernel
theorem dX0_needOf_3 : decode cX0_needOf 3 = .ok (.invokestatic 49, 3) := by decide +kernel
theorem dX0_needOf_6 : decode cX0_needOf 6 = .ok (.ifCond .eq 16, 3) := by decide +kernel
theorem dX0_needOf_9 : decode cX0_needOf 9 = .ok (.iload_n 2, 1) := by decide +kernel
theorem dX0_needOf_10 : decode cX0_needOf 10 = .ok (.iconst 0, 1) := by decide +kernel
theorem dX0_needOf_11 : decode cX0_needOf 11 = .ok (.iconst 3, 1) := by decide +kernel
theorem dX0_needOf_12 : decode cX0_needOf 12 = .ok (.invokestatic 49, 3) := by decide +kernel
theorem dX0_needOf_15 : decode cX0_needOf 15 = .ok (.ifCond .eq 7, 3) := by decide +kernel
theorem dX0_needOf_18 : decode cX0_needOf 18 = .ok (.iconst 1, 1) := by decide +kernel
theorem dX0_needOf_19 : decode cX0_needOf 19 = .ok (.goto 4, 3) := by decide +kernel
theorem dX0_needOf_22 : decode cX0_needOf 22 = .ok (.iconst 0, 1) := by decide +kernel
theorem dX0_needOf_23 : decode cX0_needOf 23 = .ok (.istore_n 3, 1) := by decide +kernel
theorem dX0_needOf_24 : decode cX0_needOf 24 = .ok (.iload_n 3, 1) := by decide +kernel
theorem dX0_needOf_25 : decode cX0_needOf 25 = .ok (.ifCond .eq 16, 3) := by decide +kernel
theorem dX0_needOf_28 : decode cX0_needOf 28 = .ok (.aload_n 0, 1) := by decide +kernel
theorem dX0_needOf_29 : decode cX0_needOf 29 = .ok (.getfield 18, 3) := by decide +kernel
theorem dX0_needOf_32 : decode cX0_needOf 32 = .ok (.iload_n 1, 1) := by decide +kernel
theorem dX0_needOf_33 : decode cX0_needOf 33 = .ok (.iconst 4, 1) := by decide +kernel
theorem dX0_needOf_34 : decode cX0_needOf 34 = .ok (.imul, 1) := by decide +kernel
theorem dX0_needOf_35 : decode cX0_needOf 35 = .ok (.iload_n 2, 1) := by decide +kernel
theorem dX0_needOf_36 : decode cX0_needOf 36 = .ok (.iadd, 1) := by decide +kernel
theorem dX0_needOf_37 : decode cX0_needOf 37 = .ok (.iaload, 1) := by decide +kernel
theorem dX0_needOf_38 : decode cX0_needOf 38 = .ok (.goto 4, 3) := by decide +kernel
theorem dX0_needOf_41 : decode cX0_needOf 41 = .ok (.iconst 0, 1) := by decide +kernel
theorem dX0_needOf_42 : decode cX0_needOf 42 = .ok (.ireturn, 1) := by decide +kernel
theorem dX0_barsOf_0 : decode cX0_barsOf 0 = .ok (.iload_n 1, 1) := by decide +kernel
theorem dX0_barsOf_1 : decode cX0_barsOf 1 = .ok (.iconst 0, 1) := by decide +kernel
theorem dX0_barsOf_2 : decode cX0_barsOf 2 = .ok (.iconst 5, 1) := by decide +kernel
theorem dX0_barsOf_3 : decode cX0_barsOf 3 = .ok (.invokestatic 49, 3) := by decide +kernel
theorem dX0_barsOf_6 : decode cX0_barsOf 6 = .ok (.ifCond .eq 12, 3) := by decide +kernel
theorem dX0_barsOf_9 : decode cX0_barsOf 9 = .ok (.aload_n 0, 1) := by decide +kernel
theorem dX0_barsOf_10 : decode cX0_barsOf 10 = .ok (.getfield 21, 3) := by decide +kernel
theorem dX0_barsOf_13 : decode cX0_barsOf 13 = .ok (.iload_n 1, 1) := by decide +kernel
theorem dX0_barsOf_14 : decode cX0_barsOf 14 = .ok (.iaload, 1) := by decide +kernel
theorem dX0_barsOf_15 : decode cX0_barsOf 15 = .ok (.goto 4, 3) := by decide +kernel
theorem dX0_barsOf_18 : decode cX0_barsOf 18 = .ok (.iconst 0, 1) := by decide +kernel
theorem dX0_barsOf_19 : decode cX0_barsOf 19 = .ok (.ireturn, 1) := by decide +kernel
theorem dX0_payOf_0 : decode cX0_payOf 0 = .ok (.iload_n 1, 1) := by decide +kernel
theorem dX0_payOf_1 : decode cX0_payOf 1 = .ok (.iconst 0, 1) := by decide +kernel
theorem dX0_payOf_2 : decode cX0_payOf 2 = .ok (.iconst 5, 1) := by decide +kernel
theorem dX0_payOf_3 : decode cX0_payOf 3 = .ok (.invokestatic 49, 3) := by decide +kernel
theorem dX0_payOf_6 : decode cX0_payOf 6 = .ok (.ifCond .eq 12, 3) := by decide +kernel
theorem dX0_payOf_9 : decode cX0_payOf 9 = .ok (.aload_n 0, 1) := by decide +kernel
theorem dX0_payOf_10 : decode cX0_payOf 10 = .ok (.getfield 24, 3) := by decide +kernel
theorem dX0_payOf_13 : decode cX0_payOf 13 = .ok (.iload_n 1, 1) := by decide +kernel
theorem dX0_payOf_14 : decode cX0_payOf 14 = .ok (.iaload, 1) := by decide +kernel
theorem dX0_payOf_15 : decode cX0_payOf 15 = .ok (.goto 4, 3) := by decide +kernel
theorem dX0_payOf_18 : decode cX0_payOf 18 = .ok (.iconst 0, 1) := by decide +kernel
theorem dX0_payOf_19 : decode cX0_payOf 19 = .ok (.ireturn, 1) := by decide +kernel
theorem dX0_worthOf_0 : decode cX0_worthOf 0 = .ok (.aload_n 0, 1) := by decide +kernel
theorem dX0_worthOf_1 : decode cX0_worthOf 1 = .ok (.iload_n 1, 1) := by decide +kernel
theorem dX0_worthOf_2 : decode cX0_worthOf 2 = .ok (.invokevirtual 69, 3) := by decide +kernel
theorem dX0_worthOf_5 : decode cX0_worthOf 5 = .ok (.aload_n 0, 1) := by decide +kernel
theorem dX0_worthOf_6 : decode cX0_worthOf 6 = .ok (.iload_n 1, 1) := by decide +kernel
theorem dX0_worthOf_7 : decode cX0_worthOf 7 = .ok (.invokevirtual 72, 3) := by decide +kernel
theorem dX0_worthOf_10 : decode cX0_worthOf 10 = .ok (.imul, 1) := by decide +kernel
theorem dX0_worthOf_11 : decode cX0_worthOf 11 = .ok (.ireturn, 1) := by decide +kernel
theorem dX0_barsOfSet_0 : decode cX0_barsOfSet 0 = .ok (.iconst 0, 1) := by decide +kernel
theorem dX0_barsOfSet_1 : decode cX0_barsOfSet 1 = .ok (.istore_n 2, 1) := by decide +kernel
theorem dX0_barsOfSet_2 : decode cX0_barsOfSet 2 = .ok (.iconst 0, 1) := by decide +kernel
theorem dX0_barsOfSet_3 : decode cX0_barsOfSet 3 = .ok (.istore_n 3, 1) := by decide +kernel
theorem dX0_barsOfSet_4 : decode cX0_barsOfSet 4 = .ok (.iload_n 3, 1) := by decide +kernel
theorem dX0_barsOfSet_5 : decode cX0_barsOfSet 5 = .ok (.bipush 6, 2) := by decide +kernel
theorem dX0_barsOfSet_7 : decode cX0_barsOfSet 7 = .ok (.if_icmp .ge 23, 3) := by decide +kernel
theorem dX0_barsOfSet_10 : decode cX0_barsOfSet 10 = .ok (.iload_n 2, 1) := by decide +kernel
theorem dX0_barsOfSet_11 : decode cX0_barsOfSet 11 = .ok (.iload_n 1, 1) := by decide +kernel
theorem dX0_barsOfSet_12 : decode cX0_barsOfSet 12 = .ok (.iload_n 3, 1) := by decide +kernel
theorem dX0_barsOfSet_13 : decode cX0_barsOfSet 13 = .ok (.invokestatic 75, 3) := by decide +kernel
theorem dX0_barsOfSet_16 : decode cX0_barsOfSet 16 = .ok (.aload_n 0, 1) := by decide +kernel
theorem dX0_barsOfSet_17 : decode cX0_barsOfSet 17 = .ok (.iload_n 3, 1) := by decide +kernel
theorem dX0_barsOfSet_18 : decode cX0_barsOfSet 18 = .ok (.invokevirtual 69, 3) := by decide +kernel
theorem dX0_barsOfSet_21 : decode cX0_barsOfSet 21 = .ok (.imul, 1) := by decide +kernel
theorem dX0_barsOfSet_22 : decode cX0_barsOfSet 22 = .ok (.iadd, 1) := by decide +kernel
theorem dX0_barsOfSet_23 : decode cX0_barsOfSet 23 = .ok (.istore_n 2, 1) := by decide +kernel
theorem dX0_barsOfSet_24 : decode cX0_barsOfSet 24 = .ok (.iinc 3 1, 3) := by decide +kernel
theorem dX0_barsOfSet_27 : decode cX0_barsOfSet 27 = .ok (.goto (-23), 3) := by decide +kernel
theorem dX0_barsOfSet_30 : decode cX0_barsOfSet 30 = .ok (.iload_n 2, 1) := by decide +kernel
theorem dX0_barsOfSet_31 : decode cX0_barsOfSet 31 = .ok (.ireturn, 1) := by decide +kernel
theorem dX0_payOfSet_0 : decode cX0_payOfSet 0 = .ok (.iconst 0, 1) := by decide +kernel
theorem dX0_payOfSet_1 : decode cX0_payOfSet 1 = .ok (.istore_n 2, 1) := by decide +kernel
theorem dX0_payOfSet_2 : decode cX0_payOfSet 2 = .ok (.iconst 0, 1) := by decide +kernel
theorem dX0_payOfSet_3 : decode cX0_payOfSet 3 = .ok (.istore_n 3, 1) := by decide +kernel
theorem dX0_payOfSet_4 : decode cX0_payOfSet 4 = .ok (.iload_n 3, 1) := by decide +kernel
theorem dX0_payOfSet_5 : decode cX0_payOfSet 5 = .ok (.bipush 6, 2) := by decide +kernel
theorem dX0_payOfSet_7 : decode cX0_payOfSet 7 = .ok (.if_icmp .ge 46, 3) := by decide +kernel
theorem dX0_payOfSet_10 : decode cX0_payOfSet 10 = .ok (.iconst 0, 1) := by decide +kernel
theorem dX0_payOfSet_11 : decode cX0_payOfSet 11 = .ok (.istore 4, 2) := by decide +kernel
theorem dX0_payOfSet_13 : decode cX0_payOfSet 13 = .ok (.iload 4, 2) := by decide +kernel
theorem dX0_payOfSet_15 : decode cX0_payOfSet 15 = .ok (.iconst 4, 1) := by decide +kernel
theorem dX0_payOfSet_16 : decode cX0_payOfSet 16 = .ok (.if_icmp .ge 31, 3) := by decide +kernel
theorem dX0_payOfSet_19 : decode cX0_payOfSet 19 = .ok (.iload_n 2, 1) := by decide +kernel
theorem dX0_payOfSet_20 : decode cX0_payOfSet 20 = .ok (.iload_n 1, 1) := by decide +kernel
theorem dX0_payOfSet_21 : decode cX0_payOfSet 21 = .ok (.iload_n 3, 1) := by decide +kernel
theorem dX0_payOfSet_22 : decode cX0_payOfSet 22 = .ok (.invokestatic 75, 3) := by decide +kernel
theorem dX0_payOfSet_25 : decode cX0_payOfSet 25 = .ok (.aload_n 0, 1) := by decide +kernel
theorem dX0_payOfSet_26 : decode cX0_payOfSet 26 = .ok (.iload_n 3, 1) := by decide +kernel
theorem dX0_payOfSet_27 : decode cX0_payOfSet 27 = .ok (.invokevirtual 78, 3) := by decide +kernel
theorem dX0_payOfSet_30 : decode cX0_payOfSet 30 = .ok (.imul, 1) := by decide +kernel
theorem dX0_payOfSet_31 : decode cX0_payOfSet 31 = .ok (.aload_n 0, 1) := by decide +kernel
theorem dX0_payOfSet_32 : decode cX0_payOfSet 32 = .ok (.iload_n 3, 1) := by decide +kernel
theorem dX0_payOfSet_33 : decode cX0_payOfSet 33 = .ok (.iload 4, 2) := by decide +kernel
theorem dX0_payOfSet_35 : decode cX0_payOfSet 35 = .ok (.invokevirtual 81, 3) := by decide +kernel
theorem dX0_payOfSet_38 : decode cX0_payOfSet 38 = .ok (.imul, 1) := by decide +kernel
theorem dX0_payOfSet_39 : decode cX0_payOfSet 39 = .ok (.iadd, 1) := by decide +kernel
theorem dX0_payOfSet_40 : decode cX0_payOfSet 40 = .ok (.istore_n 2, 1) := by decide +kernel
theorem dX0_payOfSet_41 : decode cX0_payOfSet 41 = .ok (.iinc 4 1, 3) := by decide +kernel
theorem dX0_payOfSet_44 : decode cX0_payOfSet 44 = .ok (.goto (-31), 3) := by decide +kernel
theorem dX0_payOfSet_47 : decode cX0_payOfSet 47 = .ok (.iinc 3 1, 3) := by decide +kernel
theorem dX0_payOfSet_50 : decode cX0_payOfSet 50 = .ok (.goto (-46), 3) := by decide +kernel
theorem dX0_payOfSet_53 : decode cX0_payOfSet 53 = .ok (.iload_n 2, 1) := by decide +kernel
theorem dX0_payOfSet_54 : decode cX0_payOfSet 54 = .ok (.ireturn, 1) := by decide +kernel
theorem dX0_withBreath_0 : decode cX0_withBreath 0 = .ok (.iconst 0, 1) := by decide +kernel
theorem dX0_withBreath_1 : decode cX0_withBreath 1 = .ok (.istore_n 2, 1) := by decide +kernel
theorem dX0_withBreath_2 : decode cX0_withBreath 2 = .ok (.iconst 0, 1) := by decide +kernel
theorem dX0_withBreath_3 : decode cX0_withBreath 3 = .ok (.istore_n 3, 1) := by decide +kernel
theorem dX0_withBreath_4 : decode cX0_withBreath 4 = .ok (.iload_n 3, 1) := by decide +kernel
theorem dX0_withBreath_5 : decode cX0_withBreath 5 = .ok (.bipush 8, 2) := by decide +kernel
theorem dX0_withBreath_7 : decode cX0_withBreath 7 = .ok (.if_icmp .ge 25, 3) := by decide +kernel
theorem dX0_withBreath_10 : decode cX0_withBreath 10 = .ok (.aload_n 0, 1) := by decide +kernel
theorem dX0_withBreath_11 : decode cX0_withBreath 11 = .ok (.getfield 9, 3) := by decide +kernel
theorem dX0_withBreath_14 : decode cX0_withBreath 14 = .ok (.iload_n 3, 1) := by decide +kernel
theorem dX0_withBreath_15 : decode cX0_withBreath 15 = .ok (.iaload, 1) := by decide +kernel
theorem dX0_withBreath_16 : decode cX0_withBreath 16 = .ok (.iload_n 1, 1) := by decide +kernel
theorem dX0_withBreath_17 : decode cX0_withBreath 17 = .ok (.if_icmp .ne 9, 3) := by decide +kernel
theorem dX0_withBreath_20 : decode cX0_withBreath 20 = .ok (.iload_n 2, 1) := by decide +kernel
theorem dX0_withBreath_21 : decode cX0_withBreath 21 = .ok (.iconst 1, 1) := by decide +kernel
theorem dX0_withBreath_22 : decode cX0_withBreath 22 = .ok (.iload_n 3, 1) := by decide +kernel
theorem dX0_withBreath_23 : decode cX0_withBreath 23 = .ok (.ishl, 1) := by decide +kernel
theorem dX0_withBreath_24 : decode cX0_withBreath 24 = .ok (.ior, 1) := by decide +kernel
theorem dX0_withBreath_25 : decode cX0_withBreath 25 = .ok (.istore_n 2, 1) := by decide +kernel
theorem dX0_withBreath_26 : decode cX0_withBreath 26 = .ok (.iinc 3 1, 3) := by decide +kernel
theorem dX0_withBreath_29 : decode cX0_withBreath 29 = .ok (.goto (-25), 3) := by decide +kernel
theorem dX0_withBreath_32 : decode cX0_withBreath 32 = .ok (.iload_n 2, 1) := by decide +kernel
theorem dX0_withBreath_33 : decode cX0_withBreath 33 = .ok (.aload_n 0, 1) := by decide +kernel
theorem dX0_withBreath_34 : decode cX0_withBreath 34 = .ok (.getfield 27, 3) := by decide +kernel
theorem dX0_withBreath_37 : decode cX0_withBreath 37 = .ok (.iand, 1) := by decide +kernel
theorem dX0_withBreath_38 : decode cX0_withBreath 38 = .ok (.aload_n 0, 1) := by decide +kernel
theorem dX0_withBreath_39 : decode cX0_withBreath 39 = .ok (.getfield 31, 3) := by decide +kernel
theorem dX0_withBreath_42 : decode cX0_withBreath 42 = .ok (.iconst (-1), 1) := by decide +kernel
theorem dX0_withBreath_43 : decode cX0_withBreath 43 = .ok (.ixor, 1) := by decide +kernel
theorem dX0_withBreath_44 : decode cX0_withBreath 44 = .ok (.iand, 1) := by decide +kernel
theorem dX0_withBreath_45 : decode cX0_withBreath 45 = .ok (.aload_n 0, 1) := by decide +kernel
theorem dX0_withBreath_46 : decode cX0_withBreath 46 = .ok (.getfield 34, 3) := by decide +kernel
theorem dX0_withBreath_49 : decode cX0_withBreath 49 = .ok (.iconst (-1), 1) := by decide +kernel
theorem dX0_withBreath_50 : decode cX0_withBreath 50 = .ok (.ixor, 1) := by decide +kernel
theorem dX0_withBreath_51 : decode cX0_withBreath 51 = .ok (.iand, 1) := by decide +kernel
theorem dX0_withBreath_52 : decode cX0_withBreath 52 = .ok (.ireturn, 1) := by decide +kernel
theorem dX0_readyIn_0 : decode cX0_readyIn 0 = .ok (.aload_n 0, 1) := by decide +kernel
theorem dX0_readyIn_1 : decode cX0_readyIn 1 = .ok (.iload_n 1, 1) := by decide +kernel
theorem dX0_readyIn_2 : decode cX0_readyIn 2 = .ok (.invokevirtual 84, 3) := by decide +kernel
theorem dX0_readyIn_5 : decode cX0_readyIn 5 = .ok (.aload_n 0, 1) := by decide +kernel
theorem dX0_readyIn_6 : decode cX0_readyIn 6 = .ok (.invokevirtual 87, 3) := by decide +kernel
theorem dX0_readyIn_9 : decode cX0_readyIn 9 = .ok (.iconst (-1), 1) := by decide +kernel
theorem dX0_readyIn_10 : decode cX0_readyIn 10 = .ok (.ixor, 1) := by decide +kernel
theorem dX0_readyIn_11 : decode cX0_readyIn 11 = .ok (.iand, 1) := by decide +kernel
theorem dX0_readyIn_12 : decode cX0_readyIn 12 = .ok (.ireturn, 1) := by decide +kernel
theorem dX0_leastFree_0 : decode cX0_leastFree 0 = .ok (.aload_n 0, 1) := by decide +kernel
theorem dX0_leastFree_1 : decode cX0_leastFree 1 = .ok (.iload_n 1, 1) := by decide +kernel
theorem dX0_leastFree_2 : decode cX0_leastFree 2 = .ok (.invokevirtual 84, 3) := by decide +kernel
theorem dX0_leastFree_5 : decode cX0_leastFree 5 = .ok (.aload_n 0, 1) := by decide +kernel
theorem dX0_leastFree_6 : decode cX0_leastFree 6 = .ok (.invokevirtual 87, 3) := by decide +kernel
theorem dX0_leastFree_9 : decode cX0_leastFree 9 = .ok (.iand, 1) := by decide +kernel
theorem dX0_leastFree_10 : decode cX0_leastFree 10 = .ok (.istore_n 3, 1) := by decide +kernel
theorem dX0_leastFree_11 : decode cX0_leastFree 11 = .ok (.iconst 0, 1) := by decide +kernel
theorem dX0_leastFree_12 : decode cX0_leastFree 12 = .ok (.istore 4, 2) := by decide +kernel
theorem dX0_leastFree_14 : decode cX0_leastFree 14 = .ok (.iconst 0, 1) := by decide +kernel
theorem dX0_leastFree_15 : decode cX0_leastFree 15 = .ok (.istore 5, 2) := by decide +kernel
theorem dX0_leastFree_17 : decode cX0_leastFree 17 = .ok (.iload 5, 2) := by decide +kernel
theorem dX0_leastFree_19 : decode cX0_leastFree 19 = .ok (.bipush 8, 2) := by decide +kernel
theorem dX0_leastFree_21 : decode cX0_leastFree 21 = .ok (.if_icmp .ge 37, 3) := by decide +kernel
theorem dX0_leastFree_24 : decode cX0_leastFree 24 = .ok (.iload_n 3, 1) := by decide +kernel
theorem dX0_leastFree_25 : decode cX0_leastFree 25 = .ok (.iload 5, 2) := by decide +kernel
theorem dX0_leastFree_27 : decode cX0_leastFree 27 = .ok (.invokestatic 75, 3) := by decide +kernel
theorem dX0_leastFree_30 : decode cX0_leastFree 30 = .ok (.iconst 1, 1) := by decide +kernel
theorem dX0_leastFree_31 : decode cX0_leastFree 31 = .ok (.if_icmp .ne 21, 3) := by decide +kernel
theorem dX0_leastFree_34 : decode cX0_leastFree 34 = .ok (.iload 4, 2) := by decide +kernel
theorem dX0_leastFree_36 : decode cX0_leastFree 36 = .ok (.invokestatic 91, 3) := by decide +kernel
theorem dX0_leastFree_39 : decode cX0_leastFree 39 = .ok (.iload_n 2, 1) := by decide +kernel
theorem dX0_leastFree_40 : decode cX0_leastFree 40 = .ok (.if_icmp .ge 12, 3) := by decide +kernel
theorem dX0_leastFree_43 : decode cX0_leastFree 43 = .ok (.iload 4, 2) := by decide +kernel
theorem dX0_leastFree_45 : decode cX0_leastFree 45 = .ok (.iconst 1, 1) := by decide +kernel
theorem dX0_leastFree_46 : decode cX0_leastFree 46 = .ok (.iload 5, 2) := by decide +kernel
theorem dX0_leastFree_48 : decode cX0_leastFree 48 = .ok (.ishl, 1) := by decide +kernel
theorem dX0_leastFree_49 : decode cX0_leastFree 49 = .ok (.ior, 1) := by decide +kernel
theorem dX0_leastFree_50 : decode cX0_leastFree 50 = .ok (.istore 4, 2) := by decide +kernel
theorem dX0_leastFree_52 : decode cX0_leastFree 52 = .ok (.iinc 5 1, 3) := by decide +kernel
theorem dX0_leastFree_55 : decode cX0_leastFree 55 = .ok (.goto (-38), 3) := by decide +kernel
theorem dX0_leastFree_58 : decode cX0_leastFree 58 = .ok (.iload 4, 2) := by decide +kernel
theorem dX0_leastFree_60 : decode cX0_leastFree 60 = .ok (.ireturn, 1) := by decide +kernel
theorem dX0_canBeSung_0 : decode cX0_canBeSung 0 = .ok (.iconst 0, 1) := by decide +kernel
theorem dX0_canBeSung_1 : decode cX0_canBeSung 1 = .ok (.istore_n 2, 1) := by decide +kernel
theorem dX0_canBeSung_2 : decode cX0_canBeSung 2 = .ok (.iload_n 2, 1) := by decide +kernel
theorem dX0_canBeSung_3 : decode cX0_canBeSung 3 = .ok (.iconst 4, 1) := by decide +kernel
theorem dX0_canBeSung_4 : decode cX0_canBeSung 4 = .ok (.if_icmp .ge 28, 3) := by decide +kernel
theorem dX0_canBeSung_7 : decode cX0_canBeSung 7 = .ok (.aload_n 0, 1) := by decide +kernel
theorem dX0_canBeSung_8 : decode cX0_canBeSung 8 = .ok (.iload_n 2, 1) := by decide +kernel
theorem dX0_canBeSung_9 : decode cX0_canBeSung 9 = .ok (.invokevirtual 96, 3) := by decide +kernel
theorem dX0_canBeSung_12 : decode cX0_canBeSung 12 = .ok (.invokestatic 91, 3) := by decide +kernel
theorem dX0_canBeSung_15 : decode cX0_canBeSung 15 = .ok (.aload_n 0, 1) := by decide +kernel
theorem dX0_canBeSung_16 : decode cX0_canBeSung 16 = .ok (.iload_n 1, 1) := by decide +kernel
theorem dX0_canBeSung_17 : decode cX0_canBeSung 17 = .ok (.iload_n 2, 1) := by decide +kernel
theorem dX0_canBeSung_18 : decode cX0_canBeSung 18 = .ok (.invokevirtual 81, 3) := by decide +kernel
theorem dX0_canBeSung_21 : decode cX0_canBeSung 21 = .ok (.if_icmp .ge 5, 3) := by decide +kernel
theorem dX0_canBeSung_24 : decode cX0_canBeSung 24 = .ok (.iconst 0, 1) := by decide +kernel
theorem dX0_canBeSung_25 : decode cX0_canBeSung 25 = .ok (.ireturn, 1) := by decide +kernel
theorem dX0_canBeSung_26 : decode cX0_canBeSung 26 = .ok (.iinc 2 1, 3) := by decide +kernel
theorem dX0_canBeSung_29 : decode cX0_canBeSung 29 = .ok (.goto (-27), 3) := by decide +kernel
theorem dX0_canBeSung_32 : decode cX0_canBeSung 32 = .ok (.iconst 1, 1) := by decide +kernel
theorem dX0_canBeSung_33 : decode cX0_canBeSung 33 = .ok (.ireturn, 1) := by decide +kernel
theorem dX0_deepestOf_0 : decode cX0_deepestOf 0 = .ok (.bipush (-6), 2) := by decide +kernel
theorem dX0_deepestOf_2 : decode cX0_deepestOf 2 = .ok (.istore_n 2, 1) := by decide +kernel
theorem dX0_deepestOf_3 : decode cX0_deepestOf 3 = .ok (.iconst 0, 1) := by decide +kernel
theorem dX0_deepestOf_4 : decode cX0_deepestOf 4 = .ok (.istore_n 3, 1) := by decide +kernel
theorem dX0_deepestOf_5 : decode cX0_deepestOf 5 = .ok (.iload_n 3, 1) := by decide +kernel
theorem dX0_deepestOf_6 : decode cX0_deepestOf 6 = .ok (.bipush 8, 2) := by decide +kernel
theorem dX0_deepestOf_8 : decode cX0_deepestOf 8 = .ok (.if_icmp .ge 33, 3) := by decide +kernel
theorem dX0_deepestOf_11 : decode cX0_deepestOf 11 = .ok (.iload_n 1, 1) := by decide +kernel
theorem dX0_deepestOf_12 : decode cX0_deepestOf 12 = .ok (.iload_n 3, 1) := by decide +kernel
theorem dX0_deepestOf_13 : decode cX0_deepestOf 13 = .ok (.invokestatic 75, 3) := by decide +kernel
theorem dX0_deepestOf_16 : decode cX0_deepestOf 16 = .ok (.iconst 1, 1) := by decide +kernel
theorem dX0_deepestOf_17 : decode cX0_deepestOf 17 = .ok (.if_icmp .ne 18, 3) := by decide +kernel
theorem dX0_deepestOf_20 : decode cX0_deepestOf 20 = .ok (.aload_n 0, 1) := by decide +kernel
theorem dX0_deepestOf_21 : decode cX0_deepestOf 21 = .ok (.iload_n 3, 1) := by decide +kernel
theorem dX0_deepestOf_22 : decode cX0_deepestOf 22 = .ok (.invokevirtual 61, 3) := by decide +kernel
theorem dX0_deepestOf_25 : decode cX0_deepestOf 25 = .ok (.aload_n 0, 1) := by decide +kernel
theorem dX0_deepestOf_26 : decode cX0_deepestOf 26 = .ok (.iload_n 2, 1) := by decide +kernel
theorem dX0_deepestOf_27 : decode cX0_deepestOf 27 = .ok (.invokevirtual 61, 3) := by decide +kernel
theorem dX0_deepestOf_30 : decode cX0_deepestOf 30 = .ok (.if_icmp .le 5, 3) := by decide +kernel
theorem dX0_deepestOf_33 : decode cX0_deepestOf 33 = .ok (.iload_n 3, 1) := by decide +kernel
theorem dX0_deepestOf_34 : decode cX0_deepestOf 34 = .ok (.istore_n 2, 1) := by decide +kernel
theorem dX0_deepestOf_35 : decode cX0_deepestOf 35 = .ok (.iinc 3 1, 3) := by decide +kernel
theorem dX0_deepestOf_38 : decode cX0_deepestOf 38 = .ok (.goto (-33), 3) := by decide +kernel
theorem dX0_deepestOf_41 : decode cX0_deepestOf 41 = .ok (.iload_n 2, 1) := by decide +kernel
theorem dX0_deepestOf_42 : decode cX0_deepestOf 42 = .ok (.ireturn, 1) := by decide +kernel
theorem dX0_sing_0 : decode cX0_sing 0 = .ok (.aload_n 0, 1) := by decide +kernel
theorem dX0_sing_1 : decode cX0_sing 1 = .ok (.iload_n 1, 1) := by decide +kernel
theorem dX0_sing_2 : decode cX0_sing 2 = .ok (.invokevirtual 99, 3) := by decide +kernel
theorem dX0_sing_5 : decode cX0_sing 5 = .ok (.ifCond .ne 5, 3) := by decide +kernel
theorem dX0_sing_8 : decode cX0_sing 8 = .ok (.iconst 4, 1) := by decide +kernel
theorem dX0_sing_9 : decode cX0_sing 9 = .ok (.ireturn, 1) := by decide +kernel
theorem dX0_sing_10 : decode cX0_sing 10 = .ok (.iconst 0, 1) := by decide +kernel
theorem dX0_sing_11 : decode cX0_sing 11 = .ok (.istore_n 2, 1) := by decide +kernel
theorem dX0_sing_12 : decode cX0_sing 12 = .ok (.iload_n 2, 1) := by decide +kernel
theorem dX0_sing_13 : decode cX0_sing 13 = .ok (.iconst 4, 1) := by decide +kernel
theorem dX0_sing_14 : decode cX0_sing 14 = .ok (.if_icmp .ge 45, 3) := by decide +kernel
theorem dX0_sing_17 : decode cX0_sing 17 = .ok (.iconst 0, 1) := by decide +kernel
theorem dX0_sing_18 : decode cX0_sing 18 = .ok (.istore_n 3, 1) := by decide +kernel
theorem dX0_sing_19 : decode cX0_sing 19 = .ok (.iload_n 3, 1) := by decide +kernel
theorem dX0_sing_20 : decode cX0_sing 20 = .ok (.aload_n 0, 1) := by decide +kernel
theorem dX0_sing_21 : decode cX0_sing 21 = .ok (.iload_n 1, 1) := by decide +kernel
theorem dX0_sing_22 : decode cX0_sing 22 = .ok (.iload_n 2, 1) := by decide +kernel
theorem dX0_sing_23 : decode cX0_sing 23 = .ok (.invokevirtual 81, 3) := by decide +kernel
theorem dX0_sing_26 : decode cX0_sing 26 = .ok (.if_icmp .ge 27, 3) := by decide +kernel
theorem dX0_sing_29 : decode cX0_sing 29 = .ok (.aload_n 0, 1) := by decide +kernel
theorem dX0_sing_30 : decode cX0_sing 30 = .ok (.aload_n 0, 1) := by decide +kernel
theorem dX0_sing_31 : decode cX0_sing 31 = .ok (.aload_n 0, 1) := by decide +kernel
theorem dX0_sing_32 : decode cX0_sing 32 = .ok (.iload_n 2, 1) := by decide +kernel
theorem dX0_sing_33 : decode cX0_sing 33 = .ok (.invokevirtual 96, 3) := by decide +kernel
theorem dX0_sing_36 : decode cX0_sing 36 = .ok (.invokevirtual 102, 3) := by decide +kernel
theorem dX0_sing_39 : decode cX0_sing 39 = .ok (.aload_n 0, 1) := by decide +kernel
theorem dX0_sing_40 : decode cX0_sing 40 = .ok (.iload_n 1, 1) := by decide +kernel
theorem dX0_sing_41 : decode cX0_sing 41 = .ok (.invokevirtual 78, 3) := by decide +kernel
theorem dX0_sing_44 : decode cX0_sing 44 = .ok (.invokevirtual 105, 3) := by decide +kernel
theorem dX0_sing_47 : decode cX0_sing 47 = .ok (.iinc 3 1, 3) := by decide +kernel
theorem dX0_sing_50 : decode cX0_sing 50 = .ok (.goto (-31), 3) := by decide +kernel
theorem dX0_sing_53 : decode cX0_sing 53 = .ok (.iinc 2 1, 3) := by decide +kernel
theorem dX0_sing_56 : decode cX0_sing 56 = .ok (.goto (-44), 3) := by decide +kernel
theorem dX0_sing_59 : decode cX0_sing 59 = .ok (.iconst 0, 1) := by decide +kernel
theorem dX0_sing_60 : decode cX0_sing 60 = .ok (.ireturn, 1) := by decide +kernel
theorem dX0_singOff_0 : decode cX0_singOff 0 = .ok (.aload_n 0, 1) := by decide +kernel
theorem dX0_singOff_1 : decode cX0_singOff 1 = .ok (.iload_n 1, 1) := by decide +kernel
theorem dX0_singOff_2 : decode cX0_singOff 2 = .ok (.invokevirtual 53, 3) := by decide +kernel
theorem dX0_singOff_5 : decode cX0_singOff 5 = .ok (.ifCond .eq 47, 3) := by decide +kernel
theorem dX0_singOff_8 : decode cX0_singOff 8 = .ok (.iload_n 2, 1) := by decide +kernel
theorem dX0_singOff_9 : decode cX0_singOff 9 = .ok (.aload_n 0, 1) := by decide +kernel
theorem dX0_singOff_10 : decode cX0_singOff 10 = .ok (.iload_n 1, 1) := by decide +kernel
theorem dX0_singOff_11 : decode cX0_singOff 11 = .ok (.invokevirtual 61, 3) := by decide +kernel
theorem dX0_singOff_14 : decode cX0_singOff 14 = .ok (.invokestatic 109, 3) := by decide +kernel
theorem dX0_singOff_17 : decode cX0_singOff 17 = .ok (.istore_n 3, 1) := by decide +kernel
theorem dX0_singOff_18 : decode cX0_singOff 18 = .ok (.aload_n 0, 1) := by decide +kernel
theorem dX0_singOff_19 : decode cX0_singOff 19 = .ok (.iload_n 1, 1) := by decide +kernel
theorem dX0_singOff_20 : decode cX0_singOff 20 = .ok (.aload_n 0, 1) := by decide +kernel
theorem dX0_singOff_21 : decode cX0_singOff 21 = .ok (.iload_n 1, 1) := by decide +kernel
theorem dX0_singOff_22 : decode cX0_singOff 22 = .ok (.invokevirtual 61, 3) := by decide +kernel
theorem dX0_singOff_25 : decode cX0_singOff 25 = .ok (.iload_n 3, 1) := by decide +kernel
theorem dX0_singOff_26 : decode cX0_singOff 26 = .ok (.isub, 1) := by decide +kernel
theorem dX0_singOff_27 : decode cX0_singOff 27 = .ok (.invokevirtual 114, 3) := by decide +kernel
theorem dX0_singOff_30 : decode cX0_singOff 30 = .ok (.aload_n 0, 1) := by decide +kernel
theorem dX0_singOff_31 : decode cX0_singOff 31 = .ok (.dup, 1) := by decide +kernel
theorem dX0_singOff_32 : decode cX0_singOff 32 = .ok (.getfield 40, 3) := by decide +kernel
theorem dX0_singOff_35 : decode cX0_singOff 35 = .ok (.iload_n 3, 1) := by decide +kernel
theorem dX0_singOff_36 : decode cX0_singOff 36 = .ok (.iadd, 1) := by decide +kernel
theorem dX0_singOff_37 : decode cX0_singOff 37 = .ok (.putfield 40, 3) := by decide +kernel
theorem dX0_singOff_40 : decode cX0_singOff 40 = .ok (.aload_n 0, 1) := by decide +kernel
theorem dX0_singOff_41 : decode cX0_singOff 41 = .ok (.dup, 1) := by decide +kernel
theorem dX0_singOff_42 : decode cX0_singOff 42 = .ok (.getfield 34, 3) := by decide +kernel
theorem dX0_singOff_45 : decode cX0_singOff 45 = .ok (.iconst 1, 1) := by decide +kernel
theorem dX0_singOff_46 : decode cX0_singOff 46 = .ok (.iload_n 1, 1) := by decide +kernel
theorem dX0_singOff_47 : decode cX0_singOff 47 = .ok (.ishl, 1) := by decide +kernel
theorem dX0_singOff_48 : decode cX0_singOff 48 = .ok (.ior, 1) := by decide +kernel
theorem dX0_singOff_49 : decode cX0_singOff 49 = .ok (.putfield 34, 3) := by decide +kernel
theorem dX0_singOff_52 : decode cX0_singOff 52 = .ok (.return_, 1) := by decide +kernel
theorem dX0_borrow_0 : decode cX0_borrow 0 = .ok (.aload_n 0, 1) := by decide +kernel
theorem dX0_borrow_1 : decode cX0_borrow 1 = .ok (.iload_n 1, 1) := by decide +kernel
theorem dX0_borrow_2 : decode cX0_borrow 2 = .ok (.invokevirtual 53, 3) := by decide +kernel
theorem dX0_borrow_5 : decode cX0_borrow 5 = .ok (.ifCond .ne 5, 3) := by decide +kernel
theorem dX0_borrow_8 : decode cX0_borrow 8 = .ok (.iconst 1, 1) := by decide +kernel
theorem dX0_borrow_9 : decode cX0_borrow 9 = .ok (.ireturn, 1) := by decide +kernel
theorem dX0_borrow_10 : decode cX0_borrow 10 = .ok (.aload_n 0, 1) := by decide +kernel
theorem dX0_borrow_11 : decode cX0_borrow 11 = .ok (.iload_n 1, 1) := by decide +kernel
theorem dX0_borrow_12 : decode cX0_borrow 12 = .ok (.invokevirtual 61, 3) := by decide +kernel
theorem dX0_borrow_15 : decode cX0_borrow 15 = .ok (.iload_n 2, 1) := by decide +kernel
theorem dX0_borrow_16 : decode cX0_borrow 16 = .ok (.iadd, 1) := by decide +kernel
theorem dX0_borrow_17 : decode cX0_borrow 17 = .ok (.sipush 999, 3) := by decide +kernel
theorem dX0_borrow_20 : decode cX0_borrow 20 = .ok (.if_icmp .le 5, 3) := by decide +kernel
theorem dX0_borrow_23 : decode cX0_borrow 23 = .ok (.iconst 3, 1) := by decide +kernel
theorem dX0_borrow_24 : decode cX0_borrow 24 = .ok (.ireturn, 1) := by decide +kernel
theorem dX0_borrow_25 : decode cX0_borrow 25 = .ok (.aload_n 0, 1) := by decide +kernel
theorem dX0_borrow_26 : decode cX0_borrow 26 = .ok (.iload_n 1, 1) := by decide +kernel
theorem dX0_borrow_27 : decode cX0_borrow 27 = .ok (.aload_n 0, 1) := by decide +kernel
theorem dX0_borrow_28 : decode cX0_borrow 28 = .ok (.iload_n 1, 1) := by decide +kernel
theorem dX0_borrow_29 : decode cX0_borrow 29 = .ok (.invokevirtual 61, 3) := by decide +kernel
theorem dX0_borrow_32 : decode cX0_borrow 32 = .ok (.iload_n 2, 1) := by decide +kernel
theorem dX0_borrow_33 : decode cX0_borrow 33 = .ok (.iadd, 1) := by decide +kernel
theorem dX0_borrow_34 : decode cX0_borrow 34 = .ok (.invokevirtual 114, 3) := by decide +kernel
theorem dX0_borrow_37 : decode cX0_borrow 37 = .ok (.iconst 0, 1) := by decide +kernel
theorem dX0_borrow_38 : decode cX0_borrow 38 = .ok (.ireturn, 1) := by decide +kernel
theorem dX0_turnHoarse_0 : decode cX0_turnHoarse 0 = .ok (.aload_n 0, 1) := by decide +kernel
theorem dX0_turnHoarse_1 : decode cX0_turnHoarse 1 = .ok (.iload_n 1, 1) := by decide +kernel
theorem dX0_turnHoarse_2 : decode cX0_turnHoarse 2 = .ok (.invokevirtual 53, 3) := by decide +kernel
theorem dX0_turnHoarse_5 : decode cX0_turnHoarse 5 = .ok (.ifCond .ne 5, 3) := by decide +kernel
theorem dX0_turnHoarse_8 : decode cX0_turnHoarse 8 = .ok (.iconst 1, 1) := by decide +kernel
theorem dX0_turnHoarse_9 : decode cX0_turnHoarse 9 = .ok (.ireturn, 1) := by decide +kernel
theorem dX0_turnHoarse_10 : decode cX0_turnHoarse 10 = .ok (.aload_n 0, 1) := by decide +kernel
theorem dX0_turnHoarse_11 : decode cX0_turnHoarse 11 = .ok (.dup, 1) := by decide +kernel
theorem dX0_turnHoarse_12 : decode cX0_turnHoarse 12 = .ok (.getfield 31, 3) := by decide +kernel
theorem dX0_turnHoarse_15 : decode cX0_turnHoarse 15 = .ok (.iconst 1, 1) := by decide +kernel
theorem dX0_turnHoarse_16 : decode cX0_turnHoarse 16 = .ok (.iload_n 1, 1) := by decide +kernel
theorem dX0_turnHoarse_17 : decode cX0_turnHoarse 17 = .ok (.ishl, 1) := by decide +kernel
theorem dX0_turnHoarse_18 : decode cX0_turnHoarse 18 = .ok (.ixor, 1) := by decide +kernel
theorem dX0_turnHoarse_19 : decode cX0_turnHoarse 19 = .ok (.putfield 31, 3) := by decide +kernel
theorem dX0_turnHoarse_22 : decode cX0_turnHoarse 22 = .ok (.iconst 0, 1) := by decide +kernel
theorem dX0_turnHoarse_23 : decode cX0_turnHoarse 23 = .ok (.ireturn, 1) := by decide +kernel
theorem dX0_takeOver_0 : decode cX0_takeOver 0 = .ok (.aload_n 0, 1) := by decide +kernel
theorem dX0_takeOver_1 : decode cX0_takeOver 1 = .ok (.iload_n 1, 1) := by decide +kernel
theorem dX0_takeOver_2 : decode cX0_takeOver 2 = .ok (.invokevirtual 53, 3) := by decide +kernel
theorem dX0_takeOver_5 : decode cX0_takeOver 5 = .ok (.ifCond .eq 11, 3) := by decide +kernel
theorem dX0_takeOver_8 : decode cX0_takeOver 8 = .ok (.aload_n 0, 1) := by decide +kernel
theorem dX0_takeOver_9 : decode cX0_takeOver 9 = .ok (.iload_n 2, 1) := by decide +kernel
theorem dX0_takeOver_10 : decode cX0_takeOver 10 = .ok (.invokevirtual 53, 3) := by decide +kernel
theorem dX0_takeOver_13 : decode cX0_takeOver 13 = .ok (.ifCond .ne 5, 3) := by decide +kernel
theorem dX0_takeOver_16 : decode cX0_takeOver 16 = .ok (.iconst 1, 1) := by decide +kernel
theorem dX0_takeOver_17 : decode cX0_takeOver 17 = .ok (.ireturn, 1) := by decide +kernel
theorem dX0_takeOver_18 : decode cX0_takeOver 18 = .ok (.aload_n 0, 1) := by decide +kernel
theorem dX0_takeOver_19 : decode cX0_takeOver 19 = .ok (.iload_n 1, 1) := by decide +kernel
theorem dX0_takeOver_20 : decode cX0_takeOver 20 = .ok (.invokevirtual 61, 3) := by decide +kernel
theorem dX0_takeOver_23 : decode cX0_takeOver 23 = .ok (.istore_n 3, 1) := by decide +kernel
theorem dX0_takeOver_24 : decode cX0_takeOver 24 = .ok (.iload_n 1, 1) := by decide +kernel
theorem dX0_takeOver_25 : decode cX0_takeOver 25 = .ok (.iload_n 2, 1) := by decide +kernel
theorem dX0_takeOver_26 : decode cX0_takeOver 26 = .ok (.if_icmp .eq 7, 3) := by decide +kernel
theorem dX0_takeOver_29 : decode cX0_takeOver 29 = .ok (.iload_n 3, 1) := by decide +kernel
theorem dX0_takeOver_30 : decode cX0_takeOver 30 = .ok (.ifCond .ne 5, 3) := by decide +kernel
theorem dX0_takeOver_33 : decode cX0_takeOver 33 = .ok (.iconst 2, 1) := by decide +kernel
theorem dX0_takeOver_34 : decode cX0_takeOver 34 = .ok (.ireturn, 1) := by decide +kernel
theorem dX0_takeOver_35 : decode cX0_takeOver 35 = .ok (.aload_n 0, 1) := by decide +kernel
theorem dX0_takeOver_36 : decode cX0_takeOver 36 = .ok (.iload_n 2, 1) := by decide +kernel
theorem dX0_takeOver_37 : decode cX0_takeOver 37 = .ok (.invokevirtual 61, 3) := by decide +kernel
theorem dX0_takeOver_40 : decode cX0_takeOver 40 = .ok (.iload_n 3, 1) := by decide +kernel
theorem dX0_takeOver_41 : decode cX0_takeOver 41 = .ok (.iadd, 1) := by decide +kernel
theorem dX0_takeOver_42 : decode cX0_takeOver 42 = .ok (.sipush 999, 3) := by decide +kernel
theorem dX0_takeOver_45 : decode cX0_takeOver 45 = .ok (.if_icmp .le 5, 3) := by decide +kernel
theorem dX0_takeOver_48 : decode cX0_takeOver 48 = .ok (.iconst 3, 1) := by decide +kernel
theorem dX0_takeOver_49 : decode cX0_takeOver 49 = .ok (.ireturn, 1) := by decide +kernel
theorem dX0_takeOver_50 : decode cX0_takeOver 50 = .ok (.aload_n 0, 1) := by decide +kernel
theorem dX0_takeOver_51 : decode cX0_takeOver 51 = .ok (.iload_n 2, 1) := by decide +kernel
theorem dX0_takeOver_52 : decode cX0_takeOver 52 = .ok (.aload_n 0, 1) := by decide +kernel
theorem dX0_takeOver_53 : decode cX0_takeOver 53 = .ok (.iload_n 2, 1) := by decide +kernel
theorem dX0_takeOver_54 : decode cX0_takeOver 54 = .ok (.invokevirtual 61, 3) := by decide +kernel
theorem dX0_takeOver_57 : decode cX0_takeOver 57 = .ok (.iload_n 3, 1) := by decide +kernel
theorem dX0_takeOver_58 : decode cX0_takeOver 58 = .ok (.iadd, 1) := by decide +kernel
theorem dX0_takeOver_59 : decode cX0_takeOver 59 = .ok (.invokevirtual 114, 3) := by decide +kernel
theorem dX0_takeOver_62 : decode cX0_takeOver 62 = .ok (.aload_n 0, 1) := by decide +kernel
theorem dX0_takeOver_63 : decode cX0_takeOver 63 = .ok (.iload_n 1, 1) := by decide +kernel
theorem dX0_takeOver_64 : decode cX0_takeOver 64 = .ok (.iconst 0, 1) := by decide +kernel
theorem dX0_takeOver_65 : decode cX0_takeOver 65 = .ok (.invokevirtual 114, 3) := by decide +kernel
theorem dX0_takeOver_68 : decode cX0_takeOver 68 = .ok (.iconst 0, 1) := by decide +kernel
theorem dX0_takeOver_69 : decode cX0_takeOver 69 = .ok (.ireturn, 1) := by decide +kernel
theorem dX0_letGo_0 : decode cX0_letGo 0 = .ok (.aload_n 0, 1) := by decide +kernel
theorem dX0_letGo_1 : decode cX0_letGo 1 = .ok (.iload_n 1, 1) := by decide +kernel
theorem dX0_letGo_2 : decode cX0_letGo 2 = .ok (.invokevirtual 53, 3) := by decide +kernel
theorem dX0_letGo_5 : decode cX0_letGo 5 = .ok (.ifCond .ne 5, 3) := by decide +kernel
theorem dX0_letGo_8 : decode cX0_letGo 8 = .ok (.iconst 1, 1) := by decide +kernel
theorem dX0_letGo_9 : decode cX0_letGo 9 = .ok (.ireturn, 1) := by decide +kernel
theorem dX0_letGo_10 : decode cX0_letGo 10 = .ok (.aload_n 0, 1) := by decide +kernel
theorem dX0_letGo_11 : decode cX0_letGo 11 = .ok (.iload_n 1, 1) := by decide +kernel
theorem dX0_letGo_12 : decode cX0_letGo 12 = .ok (.invokevirtual 61, 3) := by decide +kernel
theorem dX0_letGo_15 : decode cX0_letGo 15 = .ok (.ifCond .ne 5, 3) := by decide +kernel
theorem dX0_letGo_18 : decode cX0_letGo 18 = .ok (.iconst 2, 1) := by decide +kernel
theorem dX0_letGo_19 : decode cX0_letGo 19 = .ok (.ireturn, 1) := by decide +kernel
theorem dX0_letGo_20 : decode cX0_letGo 20 = .ok (.aload_n 0, 1) := by decide +kernel
theorem dX0_letGo_21 : decode cX0_letGo 21 = .ok (.iload_n 1, 1) := by decide +kernel
theorem dX0_letGo_22 : decode cX0_letGo 22 = .ok (.iconst 0, 1) := by decide +kernel
theorem dX0_letGo_23 : decode cX0_letGo 23 = .ok (.invokevirtual 114, 3) := by decide +kernel
theorem dX0_letGo_26 : decode cX0_letGo 26 = .ok (.iconst 0, 1) := by decide +kernel
theorem dX0_letGo_27 : decode cX0_letGo 27 = .ok (.ireturn, 1) := by decide +kernel
theorem dX0_endEvening_0 : decode cX0_endEvening 0 = .ok (.aload_n 0, 1) := by decide +kernel
theorem dX0_endEvening_1 : decode cX0_endEvening 1 = .ok (.getfield 37, 3) := by decide +kernel
theorem dX0_endEvening_4 : decode cX0_endEvening 4 = .ok (.bipush 99, 2) := by decide +kernel
theorem dX0_endEvening_6 : decode cX0_endEvening 6 = .ok (.if_icmp .lt 5, 3) := by decide +kernel
theorem dX0_endEvening_9 : decode cX0_endEvening 9 = .ok (.iconst 5, 1) := by decide +kernel
theorem dX0_endEvening_10 : decode cX0_endEvening 10 = .ok (.ireturn, 1) := by decide +kernel
theorem dX0_endEvening_11 : decode cX0_endEvening 11 = .ok (.iconst 0, 1) := by decide +kernel
theorem dX0_endEvening_12 : decode cX0_endEvening 12 = .ok (.istore_n 1, 1) := by decide +kernel
theorem dX0_endEvening_13 : decode cX0_endEvening 13 = .ok (.iload_n 1, 1) := by decide +kernel
theorem dX0_endEvening_14 : decode cX0_endEvening 14 = .ok (.bipush 8, 2) := by decide +kernel
theorem dX0_endEvening_16 : decode cX0_endEvening 16 = .ok (.if_icmp .ge 55, 3) := by decide +kernel
theorem dX0_endEvening_19 : decode cX0_endEvening 19 = .ok (.aload_n 0, 1) := by decide +kernel
theorem dX0_endEvening_20 : decode cX0_endEvening 20 = .ok (.getfield 31, 3) := by decide +kernel
theorem dX0_endEvening_23 : decode cX0_endEvening 23 = .ok (.iload_n 1, 1) := by decide +kernel
theorem dX0_endEvening_24 : decode cX0_endEvening 24 = .ok (.invokestatic 75, 3) := by decide +kernel
theorem dX0_endEvening_27 : decode cX0_endEvening 27 = .ok (.iconst 1, 1) := by decide +kernel
theorem dX0_endEvening_28 : decode cX0_endEvening 28 = .ok (.if_icmp .eq 14, 3) := by decide +kernel
theorem dX0_endEvening_31 : decode cX0_endEvening 31 = .ok (.aload_n 0, 1) := by decide +kernel
theorem dX0_endEvening_32 : decode cX0_endEvening 32 = .ok (.getfield 34, 3) := by decide +kernel
theorem dX0_endEvening_35 : decode cX0_endEvening 35 = .ok (.iload_n 1, 1) := by decide +kernel
theorem dX0_endEvening_36 : decode cX0_endEvening 36 = .ok (.invokestatic 75, 3) := by decide +kernel
theorem dX0_endEvening_39 : decode cX0_endEvening 39 = .ok (.ifCond .ne 26, 3) := by decide +kernel
theorem dX0_endEvening_42 : decode cX0_endEvening 42 = .ok (.aload_n 0, 1) := by decide +kernel
theorem dX0_endEvening_43 : decode cX0_endEvening 43 = .ok (.iload_n 1, 1) := by decide +kernel
theorem dX0_endEvening_44 : decode cX0_endEvening 44 = .ok (.invokevirtual 61, 3) := by decide +kernel
theorem dX0_endEvening_47 : decode cX0_endEvening 47 = .ok (.istore_n 2, 1) := by decide +kernel
theorem dX0_endEvening_48 : decode cX0_endEvening 48 = .ok (.aload_n 0, 1) := by decide +kernel
theorem dX0_endEvening_49 : decode cX0_endEvening 49 = .ok (.iload_n 1, 1) := by decide +kernel
theorem dX0_endEvening_50 : decode cX0_endEvening 50 = .ok (.sipush 999, 3) := by decide +kernel
theorem dX0_endEvening_53 : decode cX0_endEvening 53 = .ok (.iload_n 2, 1) := by decide +kernel
theorem dX0_endEvening_54 : decode cX0_endEvening 54 = .ok (.iload_n 2, 1) := by decide +kernel
theorem dX0_endEvening_55 : decode cX0_endEvening 55 = .ok (.bipush 10, 2) := by decide +kernel
theorem dX0_endEvening_57 : decode cX0_endEvening 57 = .ok (.idiv, 1) := by decide +kernel
theorem dX0_endEvening_58 : decode cX0_endEvening 58 = .ok (.iadd, 1) := by decide +kernel
theorem dX0_endEvening_59 : decode cX0_endEvening 59 = .ok (.invokestatic 109, 3) := by decide +kernel
theorem dX0_endEvening_62 : decode cX0_endEvening 62 = .ok (.invokevirtual 114, 3) := by decide +kernel
theorem dX0_endEvening_65 : decode cX0_endEvening 65 = .ok (.iinc 1 1, 3) := by decide +kernel
theorem dX0_endEvening_68 : decode cX0_endEvening 68 = .ok (.goto (-55), 3) := by decide +kernel
theorem dX0_endEvening_71 : decode cX0_endEvening 71 = .ok (.aload_n 0, 1) := by decide +kernel
theorem dX0_endEvening_72 : decode cX0_endEvening 72 = .ok (.iconst 0, 1) := by decide +kernel
theorem dX0_endEvening_73 : decode cX0_endEvening 73 = .ok (.putfield 34, 3) := by decide +kernel
theorem dX0_endEvening_76 : decode cX0_endEvening 76 = .ok (.aload_n 0, 1) := by decide +kernel
theorem dX0_endEvening_77 : decode cX0_endEvening 77 = .ok (.dup, 1) := by decide +kernel
theorem dX0_endEvening_78 : decode cX0_endEvening 78 = .ok (.getfield 37, 3) := by decide +kernel
theorem dX0_endEvening_81 : decode cX0_endEvening 81 = .ok (.iconst 1, 1) := by decide +kernel
theorem dX0_endEvening_82 : decode cX0_endEvening 82 = .ok (.iadd, 1) := by decide +kernel
theorem dX0_endEvening_83 : decode cX0_endEvening 83 = .ok (.putfield 37, 3) := by decide +kernel
theorem dX0_endEvening_86 : decode cX0_endEvening 86 = .ok (.iconst 0, 1) := by decide +kernel
theorem dX0_endEvening_87 : decode cX0_endEvening 87 = .ok (.ireturn, 1) := by decide +kernel
theorem dX1_init_0 : decode cX1_init 0 = .ok (.aload_n 0, 1) := by decide +kernel
theorem dX1_init_1 : decode cX1_init 1 = .ok (.invokespecial 1, 3) := by decide +kernel
theorem dX1_init_4 : decode cX1_init 4 = .ok (.aload_n 0, 1) := by decide +kernel
theorem dX1_init_5 : decode cX1_init 5 = .ok (.bipush 10, 2) := by decide +kernel
theorem dX1_init_7 : decode cX1_init 7 = .ok (.newarray .long, 2) := by decide +kernel
theorem dX1_init_9 : decode cX1_init 9 = .ok (.putfield 9, 3) := by decide +kernel
theorem dX1_init_12 : decode cX1_init 12 = .ok (.aload_n 0, 1) := by decide +kernel
theorem dX1_init_13 : decode cX1_init 13 = .ok (.bipush 10, 2) := by decide +kernel
theorem dX1_init_15 : decode cX1_init 15 = .ok (.newarray .long, 2) := by decide +kernel
theorem dX1_init_17 : decode cX1_init 17 = .ok (.putfield 13, 3) := by decide +kernel
theorem dX1_init_20 : decode cX1_init 20 = .ok (.return_, 1) := by decide +kernel
theorem dX1_start_0 : decode cX1_start 0 = .ok (.aload_n 0, 1) := by decide +kernel
theorem dX1_start_1 : decode cX1_start 1 = .ok (.lconst 1, 1) := by decide +kernel
theorem dX1_start_2 : decode cX1_start 2 = .ok (.putfield 16, 3) := by decide +kernel
theorem dX1_start_5 : decode cX1_start 5 = .ok (.aload_n 0, 1) := by decide +kernel
theorem dX1_start_6 : decode cX1_start 6 = .ok (.iconst 0, 1) := by decide +kernel
theorem dX1_start_7 : decode cX1_start 7 = .ok (.putfield 20, 3) := by decide +kernel
theorem dX1_start_10 : decode cX1_start 10 = .ok (.iconst 0, 1) := by decide +kernel
theorem dX1_start_11 : decode cX1_start 11 = .ok (.istore_n 2, 1) := by decide +kernel
theorem dX1_start_12 : decode cX1_start 12 = .ok (.iload_n 2, 1) := by decide +kernel
theorem dX1_start_13 : decode cX1_start 13 = .ok (.bipush 9, 2) := by decide +kernel
theorem dX1_start_15 : decode cX1_start 15 = .ok (.if_icmp .gt 20, 3) := by decide +kernel
theorem dX1_start_18 : decode cX1_start 18 = .ok (.aload_n 0, 1) := by decide +kernel
theorem dX1_start_19 : decode cX1_start 19 = .ok (.getfield 9, 3) := by decide +kernel
theorem dX1_start_22 : decode cX1_start 22 = .ok (.iload_n 2, 1) := by decide +kernel
theorem dX1_start_23 : decode cX1_start 23 = .ok (.iload_n 1, 1) := by decide +kernel
theorem dX1_start_24 : decode cX1_start 24 = .ok (.ineg, 1) := by decide +kernel
theorem dX1_start_25 : decode cX1_start 25 = .ok (.iload_n 2, 1) := by decide +kernel
theorem dX1_start_26 : decode cX1_start 26 = .ok (.imul, 1) := by decide +kernel
theorem dX1_start_27 : decode cX1_start 27 = .ok (.i2l, 1) := by decide +kernel
theorem dX1_start_28 : decode cX1_start 28 = .ok (.lastore, 1) := by decide +kernel
theorem dX1_start_29 : decode cX1_start 29 = .ok (.iinc 2 1, 3) := by decide +kernel
theorem dX1_start_32 : decode cX1_start 32 = .ok (.goto (-20), 3) := by decide +kernel
theorem dX1_start_35 : decode cX1_start 35 = .ok (.return_, 1) := by decide +kernel
theorem dX1_evening_0 : decode cX1_evening 0 = .ok (.aload_n 0, 1) := by decide +kernel
theorem dX1_evening_1 : decode cX1_evening 1 = .ok (.dup, 1) := by decide +kernel
theorem dX1_evening_2 : decode cX1_evening 2 = .ok (.getfield 16, 3) := by decide +kernel
theorem dX1_evening_5 : decode cX1_evening 5 = .ok (.ldc2_w 24, 3) := by decide +kernel
theorem dX1_evening_8 : decode cX1_evening 8 = .ok (.lmul, 1) := by decide +kernel
theorem dX1_evening_9 : decode cX1_evening 9 = .ok (.putfield 16, 3) := by decide +kernel
theorem dX1_evening_12 : decode cX1_evening 12 = .ok (.aload_n 0, 1) := by decide +kernel
theorem dX1_evening_13 : decode cX1_evening 13 = .ok (.iconst 0, 1) := by decide +kernel
theorem dX1_evening_14 : decode cX1_evening 14 = .ok (.putfield 20, 3) := by decide +kernel
theorem dX1_evening_17 : decode cX1_evening 17 = .ok (.iconst 0, 1) := by decide +kernel
theorem dX1_evening_18 : decode cX1_evening 18 = .ok (.istore_n 3, 1) := by decide +kernel
theorem dX1_evening_19 : decode cX1_evening 19 = .ok (.iload_n 3, 1) := by decide +kernel
theorem dX1_evening_20 : decode cX1_evening 20 = .ok (.bipush 9, 2) := by decide +kernel
theorem dX1_evening_22 : decode cX1_evening 22 = .ok (.if_icmp .gt 60, 3) := by decide +kernel
theorem dX1_evening_25 : decode cX1_evening 25 = .ok (.aload_n 0, 1) := by decide +kernel
theorem dX1_evening_26 : decode cX1_evening 26 = .ok (.getfield 13, 3) := by decide +kernel
theorem dX1_evening_29 : decode cX1_evening 29 = .ok (.iload_n 3, 1) := by decide +kernel
theorem dX1_evening_30 : decode cX1_evening 30 = .ok (.iload_n 3, 1) := by decide +kernel
theorem dX1_evening_31 : decode cX1_evening 31 = .ok (.ifCond .ne 15, 3) := by decide +kernel
theorem dX1_evening_34 : decode cX1_evening 34 = .ok (.ldc2_w 24, 3) := by decide +kernel
theorem dX1_evening_37 : decode cX1_evening 37 = .ok (.aload_n 0, 1) := by decide +kernel
theorem dX1_evening_38 : decode cX1_evening 38 = .ok (.iconst 0, 1) := by decide +kernel
theorem dX1_evening_39 : decode cX1_evening 39 = .ok (.invokevirtual 26, 3) := by decide +kernel
theorem dX1_evening_42 : decode cX1_evening 42 = .ok (.lmul, 1) := by decide +kernel
theorem dX1_evening_43 : decode cX1_evening 43 = .ok (.goto 32, 3) := by decide +kernel
theorem dX1_evening_46 : decode cX1_evening 46 = .ok (.iload_n 1, 1) := by decide +kernel
theorem dX1_evening_47 : decode cX1_evening 47 = .ok (.i2l, 1) := by decide +kernel
theorem dX1_evening_48 : decode cX1_evening 48 = .ok (.aload_n 0, 1) := by decide +kernel
theorem dX1_evening_49 : decode cX1_evening 49 = .ok (.iload_n 3, 1) := by decide +kernel
theorem dX1_evening_50 : decode cX1_evening 50 = .ok (.iconst 1, 1) := by decide +kernel
theorem dX1_evening_51 : decode cX1_evening 51 = .ok (.isub, 1) := by decide +kernel
theorem dX1_evening_52 : decode cX1_evening 52 = .ok (.invokevirtual 26, 3) := by decide +kernel
theorem dX1_evening_55 : decode cX1_evening 55 = .ok (.lmul, 1) := by decide +kernel
theorem dX1_evening_56 : decode cX1_evening 56 = .ok (.bipush 10, 2) := by decide +kernel
theorem dX1_evening_58 : decode cX1_evening 58 = .ok (.iload_n 1, 1) := by decide +kernel
theorem dX1_evening_59 : decode cX1_evening 59 = .ok (.isub, 1) := by decide +kernel
theorem dX1_evening_60 : decode cX1_evening 60 = .ok (.i2l, 1) := by decide +kernel
theorem dX1_evening_61 : decode cX1_evening 61 = .ok (.aload_n 0, 1) := by decide +kernel
theorem dX1_evening_62 : decode cX1_evening 62 = .ok (.bipush 9, 2) := by decide +kernel
theorem dX1_evening_64 : decode cX1_evening 64 = .ok (.iload_n 3, 1) := by decide +kernel
theorem dX1_evening_65 : decode cX1_evening 65 = .ok (.iconst 1, 1) := by decide +kernel
theorem dX1_evening_66 : decode cX1_evening 66 = .ok (.iadd, 1) := by decide +kernel
theorem dX1_evening_67 : decode cX1_evening 67 = .ok (.invokestatic 30, 3) := by decide +kernel
theorem dX1_evening_70 : decode cX1_evening 70 = .ok (.invokevirtual 26, 3) := by decide +kernel
theorem dX1_evening_73 : decode cX1_evening 73 = .ok (.lmul, 1) := by decide +kernel
theorem dX1_evening_74 : decode cX1_evening 74 = .ok (.ladd, 1) := by decide +kernel
theorem dX1_evening_75 : decode cX1_evening 75 = .ok (.lastore, 1) := by decide +kernel
theorem dX1_evening_76 : decode cX1_evening 76 = .ok (.iinc 3 1, 3) := by decide +kernel
theorem dX1_evening_79 : decode cX1_evening 79 = .ok (.goto (-60), 3) := by decide +kernel
theorem dX1_evening_82 : decode cX1_evening 82 = .ok (.iconst 0, 1) := by decide +kernel
theorem dX1_evening_83 : decode cX1_evening 83 = .ok (.istore_n 3, 1) := by decide +kernel
theorem dX1_evening_84 : decode cX1_evening 84 = .ok (.iload_n 3, 1) := by decide +kernel
theorem dX1_evening_85 : decode cX1_evening 85 = .ok (.bipush 9, 2) := by decide +kernel
theorem dX1_evening_87 : decode cX1_evening 87 = .ok (.if_icmp .gt 87, 3) := by decide +kernel
theorem dX1_evening_90 : decode cX1_evening 90 = .ok (.aload_n 0, 1) := by decide +kernel
theorem dX1_evening_91 : decode cX1_evening 91 = .ok (.getfield 9, 3) := by decide +kernel
theorem dX1_evening_94 : decode cX1_evening 94 = .ok (.iload_n 3, 1) := by decide +kernel
theorem dX1_evening_95 : decode cX1_evening 95 = .ok (.aload_n 0, 1) := by decide +kernel
theorem dX1_evening_96 : decode cX1_evening 96 = .ok (.getfield 13, 3) := by decide +kernel
theorem dX1_evening_99 : decode cX1_evening 99 = .ok (.iload_n 3, 1) := by decide +kernel
theorem dX1_evening_100 : decode cX1_evening 100 = .ok (.laload, 1) := by decide +kernel
theorem dX1_evening_101 : decode cX1_evening 101 = .ok (.lastore, 1) := by decide +kernel
theorem dX1_evening_102 : decode cX1_evening 102 = .ok (.iload_n 3, 1) := by decide +kernel
theorem dX1_evening_103 : decode cX1_evening 103 = .ok (.bipush 9, 2) := by decide +kernel
theorem dX1_evening_105 : decode cX1_evening 105 = .ok (.if_icmp .ge 63, 3) := by decide +kernel
theorem dX1_evening_108 : decode cX1_evening 108 = .ok (.iload_n 2, 1) := by decide +kernel
theorem dX1_evening_109 : decode cX1_evening 109 = .ok (.i2l, 1) := by decide +kernel
theorem dX1_evening_110 : decode cX1_evening 110 = .ok (.aload_n 0, 1) := by decide +kernel
theorem dX1_evening_111 : decode cX1_evening 111 = .ok (.getfield 16, 3) := by decide +kernel
theorem dX1_evening_114 : decode cX1_evening 114 = .ok (.lmul, 1) := by decide +kernel
theorem dX1_evening_115 : decode cX1_evening 115 = .ok (.aload_n 0, 1) := by decide +kernel
theorem dX1_evening_116 : decode cX1_evening 116 = .ok (.getfield 13, 3) := by decide +kernel
theorem dX1_evening_119 : decode cX1_evening 119 = .ok (.iload_n 3, 1) := by decide +kernel
theorem dX1_evening_120 : decode cX1_evening 120 = .ok (.iconst 1, 1) := by decide +kernel
theorem dX1_evening_121 : decode cX1_evening 121 = .ok (.iadd, 1) := by decide +kernel
theorem dX1_evening_122 : decode cX1_evening 122 = .ok (.laload, 1) := by decide +kernel
theorem dX1_evening_123 : decode cX1_evening 123 = .ok (.ladd, 1) := by decide +kernel
theorem dX1_evening_124 : decode cX1_evening 124 = .ok (.aload_n 0, 1) := by decide +kernel
theorem dX1_evening_125 : decode cX1_evening 125 = .ok (.getfield 13, 3) := by decide +kernel
theorem dX1_evening_128 : decode cX1_evening 128 = .ok (.iload_n 3, 1) := by decide +kernel
theorem dX1_evening_129 : decode cX1_evening 129 = .ok (.laload, 1) := by decide +kernel
theorem dX1_evening_130 : decode cX1_evening 130 = .ok (.lcmp, 1) := by decide +kernel
theorem dX1_evening_131 : decode cX1_evening 131 = .ok (.ifCond .le 37, 3) := by decide +kernel
theorem dX1_evening_134 : decode cX1_evening 134 = .ok (.aload_n 0, 1) := by decide +kernel
theorem dX1_evening_135 : decode cX1_evening 135 = .ok (.getfield 9, 3) := by decide +kernel
theorem dX1_evening_138 : decode cX1_evening 138 = .ok (.iload_n 3, 1) := by decide +kernel
theorem dX1_evening_139 : decode cX1_evening 139 = .ok (.iload_n 2, 1) := by decide +kernel
theorem dX1_evening_140 : decode cX1_evening 140 = .ok (.i2l, 1) := by decide +kernel
theorem dX1_evening_141 : decode cX1_evening 141 = .ok (.aload_n 0, 1) := by decide +kernel
theorem dX1_evening_142 : decode cX1_evening 142 = .ok (.getfield 16, 3) := by decide +kernel
theorem dX1_evening_145 : decode cX1_evening 145 = .ok (.lmul, 1) := by decide +kernel
theorem dX1_evening_146 : decode cX1_evening 146 = .ok (.aload_n 0, 1) := by decide +kernel
theorem dX1_evening_147 : decode cX1_evening 147 = .ok (.getfield 13, 3) := by decide +kernel
theorem dX1_evening_150 : decode cX1_evening 150 = .ok (.iload_n 3, 1) := by decide +kernel
theorem dX1_evening_151 : decode cX1_evening 151 = .ok (.iconst 1, 1) := by decide +kernel
theorem dX1_evening_152 : decode cX1_evening 152 = .ok (.iadd, 1) := by decide +kernel
theorem dX1_evening_153 : decode cX1_evening 153 = .ok (.laload, 1) := by decide +kernel
theorem dX1_evening_154 : decode cX1_evening 154 = .ok (.ladd, 1) := by decide +kernel
theorem dX1_evening_155 : decode cX1_evening 155 = .ok (.lastore, 1) := by decide +kernel
theorem dX1_evening_156 : decode cX1_evening 156 = .ok (.aload_n 0, 1) := by decide +kernel
theorem dX1_evening_157 : decode cX1_evening 157 = .ok (.dup, 1) := by decide +kernel
theorem dX1_evening_158 : decode cX1_evening 158 = .ok (.getfield 20, 3) := by decide +kernel
theorem dX1_evening_161 : decode cX1_evening 161 = .ok (.iconst 1, 1) := by decide +kernel
theorem dX1_evening_162 : decode cX1_evening 162 = .ok (.iload_n 3, 1) := by decide +kernel
theorem dX1_evening_163 : decode cX1_evening 163 = .ok (.ishl, 1) := by decide +kernel
theorem dX1_evening_164 : decode cX1_evening 164 = .ok (.ior, 1) := by decide +kernel
theorem dX1_evening_165 : decode cX1_evening 165 = .ok (.putfield 20, 3) := by decide +kernel
theorem dX1_evening_168 : decode cX1_evening 168 = .ok (.iinc 3 1, 3) := by decide +kernel
theorem dX1_evening_171 : decode cX1_evening 171 = .ok (.goto (-87), 3) := by decide +kernel
theorem dX1_evening_174 : decode cX1_evening 174 = .ok (.return_, 1) := by decide +kernel
theorem dX1_bestOf_0 : decode cX1_bestOf 0 = .ok (.iload_n 1, 1) := by decide +kernel
theorem dX1_bestOf_1 : decode cX1_bestOf 1 = .ok (.iconst 0, 1) := by decide +kernel
theorem dX1_bestOf_2 : decode cX1_bestOf 2 = .ok (.bipush 9, 2) := by decide +kernel
theorem dX1_bestOf_4 : decode cX1_bestOf 4 = .ok (.invokestatic 36, 3) := by decide +kernel
theorem dX1_bestOf_7 : decode cX1_bestOf 7 = .ok (.ifCond .eq 12, 3) := by decide +kernel
theorem dX1_bestOf_10 : decode cX1_bestOf 10 = .ok (.aload_n 0, 1) := by decide +kernel
theorem dX1_bestOf_11 : decode cX1_bestOf 11 = .ok (.getfield 9, 3) := by decide +kernel
theorem dX1_bestOf_14 : decode cX1_bestOf 14 = .ok (.iload_n 1, 1) := by decide +kernel
theorem dX1_bestOf_15 : decode cX1_bestOf 15 = .ok (.laload, 1) := by decide +kernel
theorem dX1_bestOf_16 : decode cX1_bestOf 16 = .ok (.goto 4, 3) := by decide +kernel
theorem dX1_bestOf_19 : decode cX1_bestOf 19 = .ok (.lconst 0, 1) := by decide +kernel
theorem dX1_bestOf_20 : decode cX1_bestOf 20 = .ok (.lreturn, 1) := by decide +kernel
theorem dX2_init_0 : decode cX2_init 0 = .ok (.aload_n 0, 1) := by decide +kernel
theorem dX2_init_1 : decode cX2_init 1 = .ok (.invokespecial 1, 3) := by decide +kernel
theorem dX2_init_4 : decode cX2_init 4 = .ok (.aload_n 0, 1) := by decide +kernel
theorem dX2_init_5 : decode cX2_init 5 = .ok (.new 7, 3) := by decide +kernel
theorem dX2_init_8 : decode cX2_init 8 = .ok (.dup, 1) := by decide +kernel
theorem dX2_init_9 : decode cX2_init 9 = .ok (.invokespecial 9, 3) := by decide +kernel
theorem dX2_init_12 : decode cX2_init 12 = .ok (.putfield 10, 3) := by decide +kernel
theorem dX2_init_15 : decode cX2_init 15 = .ok (.aload_n 0, 1) := by decide +kernel
theorem dX2_init_16 : decode cX2_init 16 = .ok (.new 16, 3) := by decide +kernel
theorem dX2_init_19 : decode cX2_init 19 = .ok (.dup, 1) := by decide +kernel
theorem dX2_init_20 : decode cX2_init 20 = .ok (.invokespecial 18, 3) := by decide +kernel
theorem dX2_init_23 : decode cX2_init 23 = .ok (.putfield 19, 3) := by decide +kernel
theorem dX2_init_26 : decode cX2_init 26 = .ok (.return_, 1) := by decide +kernel
theorem dX3_init_0 : decode cX3_init 0 = .ok (.aload_n 0, 1) := by decide +kernel
theorem dX3_init_1 : decode cX3_init 1 = .ok (.invokespecial 3, 3) := by decide +kernel
theorem dX3_init_4 : decode cX3_init 4 = .ok (.aload_n 0, 1) := by decide +kernel
theorem dX3_init_5 : decode cX3_init 5 = .ok (.bipush 6, 2) := by decide +kernel
theorem dX3_init_7 : decode cX3_init 7 = .ok (.newarray .int, 2) := by decide +kernel
theorem dX3_init_9 : decode cX3_init 9 = .ok (.putfield 9, 3) := by decide +kernel
theorem dX3_init_12 : decode cX3_init 12 = .ok (.aload_n 0, 1) := by decide +kernel
theorem dX3_init_13 : decode cX3_init 13 = .ok (.bipush 64, 2) := by decide +kernel
theorem dX3_init_15 : decode cX3_init 15 = .ok (.newarray .int, 2) := by decide +kernel
theorem dX3_init_17 : decode cX3_init 17 = .ok (.putfield 15, 3) := by decide +kernel
theorem dX3_init_20 : decode cX3_init 20 = .ok (.return_, 1) := by decide +kernel
theorem dX3_find_0 : decode cX3_find 0 = .ok (.aload_n 1, 1) := by decide +kernel
theorem dX3_find_1 : decode cX3_find 1 = .ok (.iload_n 2, 1) := by decide +kernel
theorem dX3_find_2 : decode cX3_find 2 = .ok (.invokevirtual 18, 3) := by decide +kernel
theorem dX3_find_5 : decode cX3_find 5 = .ok (.istore_n 3, 1) := by decide +kernel
theorem dX3_find_6 : decode cX3_find 6 = .ok (.aload_n 0, 1) := by decide +kernel
theorem dX3_find_7 : decode cX3_find 7 = .ok (.iload_n 3, 1) := by decide +kernel
theorem dX3_find_8 : decode cX3_find 8 = .ok (.ifCond .ne 7, 3) := by decide +kernel
theorem dX3_find_11 : decode cX3_find 11 = .ok (.iconst 0, 1) := by decide +kernel
theorem dX3_find_12 : decode cX3_find 12 = .ok (.goto 5, 3) := by decide +kernel
theorem dX3_find_15 : decode cX3_find 15 = .ok (.bipush (-6), 2) := by decide +kernel
theorem dX3_find_17 : decode cX3_find 17 = .ok (.putfield 24, 3) := by decide +kernel
theorem dX3_find_20 : decode cX3_find 20 = .ok (.aload_n 0, 1) := by decide +kernel
theorem dX3_find_21 : decode cX3_find 21 = .ok (.bipush (-6), 2) := by decide +kernel
theorem dX3_find_23 : decode cX3_find 23 = .ok (.putfield 28, 3) := by decide +kernel
theorem dX3_find_26 : decode cX3_find 26 = .ok (.iload_n 3, 1) := by decide +kernel
theorem dX3_find_27 : decode cX3_find 27 = .ok (.ifCond .ne 4, 3) := by decide +kernel
theorem dX3_find_30 : decode cX3_find 30 = .ok (.return_, 1) := by decide +kernel
theorem dX3_find_31 : decode cX3_find 31 = .ok (.aload_n 0, 1) := by decide +kernel
theorem dX3_find_32 : decode cX3_find 32 = .ok (.aload_n 1, 1) := by decide +kernel
theorem dX3_find_33 : decode cX3_find 33 = .ok (.aload_n 1, 1) := by decide +kernel
theorem dX3_find_34 : decode cX3_find 34 = .ok (.iload_n 2, 1) := by decide +kernel
theorem dX3_find_35 : decode cX3_find 35 = .ok (.invokevirtual 31, 3) := by decide +kernel
theorem dX3_find_38 : decode cX3_find 38 = .ok (.invokevirtual 34, 3) := by decide +kernel
theorem dX3_find_41 : decode cX3_find 41 = .ok (.iconst 0, 1) := by decide +kernel
theorem dX3_find_42 : decode cX3_find 42 = .ok (.istore 4, 2) := by decide +kernel
theorem dX3_find_44 : decode cX3_find 44 = .ok (.iload 4, 2) := by decide +kernel
theorem dX3_find_46 : decode cX3_find 46 = .ok (.bipush 6, 2) := by decide +kernel
theorem dX3_find_48 : decode cX3_find 48 = .ok (.if_icmp .ge 55, 3) := by decide +kernel
theorem dX3_find_51 : decode cX3_find 51 = .ok (.aload_n 0, 1) := by decide +kernel
theorem dX3_find_52 : decode cX3_find 52 = .ok (.iload 4, 2) := by decide +kernel
theorem dX3_find_54 : decode cX3_find 54 = .ok (.iload_n 3, 1) := by decide +kernel
theorem dX3_find_55 : decode cX3_find 55 = .ok (.invokevirtual 38, 3) := by decide +kernel
theorem dX3_find_58 : decode cX3_find 58 = .ok (.istore 5, 2) := by decide +kernel
theorem dX3_find_60 : decode cX3_find 60 = .ok (.iload 5, 2) := by decide +kernel
theorem dX3_find_62 : decode cX3_find 62 = .ok (.bipush (-6), 2) := by decide +kernel
theorem dX3_find_64 : decode cX3_find 64 = .ok (.if_icmp .eq 33, 3) := by decide +kernel
theorem dX3_find_67 : decode cX3_find 67 = .ok (.aload_n 0, 1) := by decide +kernel
theorem dX3_find_68 : decode cX3_find 68 = .ok (.getfield 24, 3) := by decide +kernel
theorem dX3_find_71 : decode cX3_find 71 = .ok (.bipush (-6), 2) := by decide +kernel
theorem dX3_find_73 : decode cX3_find 73 = .ok (.if_icmp .eq 12, 3) := by decide +kernel
theorem dX3_find_76 : decode cX3_find 76 = .ok (.iload 5, 2) := by decide +kernel
theorem dX3_find_78 : decode cX3_find 78 = .ok (.aload_n 0, 1) := by decide +kernel
theorem dX3_find_79 : decode cX3_find 79 = .ok (.getfield 24, 3) := by decide +kernel
theorem dX3_find_82 : decode cX3_find 82 = .ok (.if_icmp .ge 15, 3) := by decide +kernel
theorem dX3_find_85 : decode cX3_find 85 = .ok (.aload_n 0, 1) := by decide +kernel
theorem dX3_find_86 : decode cX3_find 86 = .ok (.iload 5, 2) := by decide +kernel
theorem dX3_find_88 : decode cX3_find 88 = .ok (.putfield 24, 3) := by decide +kernel
theorem dX3_find_91 : decode cX3_find 91 = .ok (.aload_n 0, 1) := by decide +kernel
theorem dX3_find_92 : decode cX3_find 92 = .ok (.iload 4, 2) := by decide +kernel
theorem dX3_find_94 : decode cX3_find 94 = .ok (.putfield 28, 3) := by decide +kernel
theorem dX3_find_97 : decode cX3_find 97 = .ok (.iinc 4 1, 3) := by decide +kernel
theorem dX3_find_100 : decode cX3_find 100 = .ok (.goto (-56), 3) := by decide +kernel
theorem dX3_find_103 : decode cX3_find 103 = .ok (.return_, 1) := by decide +kernel
theorem dX3_takePays_0 : decode cX3_takePays 0 = .ok (.iconst 0, 1) := by decide +kernel
theorem dX3_takePays_1 : decode cX3_takePays 1 = .ok (.istore_n 3, 1) := by decide +kernel
theorem dX3_takePays_2 : decode cX3_takePays 2 = .ok (.iload_n 3, 1) := by decide +kernel
theorem dX3_takePays_3 : decode cX3_takePays 3 = .ok (.bipush 6, 2) := by decide +kernel
theorem dX3_takePays_5 : decode cX3_takePays 5 = .ok (.if_icmp .ge 33, 3) := by decide +kernel
theorem dX3_takePays_8 : decode cX3_takePays 8 = .ok (.aload_n 0, 1) := by decide +kernel
theorem dX3_takePays_9 : decode cX3_takePays 9 = .ok (.getfield 9, 3) := by decide +kernel
theorem dX3_takePays_12 : decode cX3_takePays 12 = .ok (.iload_n 3, 1) := by decide +kernel
theorem dX3_takePays_13 : decode cX3_takePays 13 = .ok (.aload_n 1, 1) := by decide +kernel
theorem dX3_takePays_14 : decode cX3_takePays 14 = .ok (.iload_n 3, 1) := by decide +kernel
theorem dX3_takePays_15 : decode cX3_takePays 15 = .ok (.iload_n 2, 1) := by decide +kernel
theorem dX3_takePays_16 : decode cX3_takePays 16 = .ok (.invokevirtual 42, 3) := by decide +kernel
theorem dX3_takePays_19 : decode cX3_takePays 19 = .ok (.ifCond .le 11, 3) := by decide +kernel
theorem dX3_takePays_22 : decode cX3_takePays 22 = .ok (.aload_n 1, 1) := by decide +kernel
theorem dX3_takePays_23 : decode cX3_takePays 23 = .ok (.iload_n 3, 1) := by decide +kernel
theorem dX3_takePays_24 : decode cX3_takePays 24 = .ok (.invokevirtual 45, 3) := by decide +kernel
theorem dX3_takePays_27 : decode cX3_takePays 27 = .ok (.goto 4, 3) := by decide +kernel
theorem dX3_takePays_30 : decode cX3_takePays 30 = .ok (.iconst (-1), 1) := by decide +kernel
theorem dX3_takePays_31 : decode cX3_takePays 31 = .ok (.iastore, 1) := by decide +kernel
theorem dX3_takePays_32 : decode cX3_takePays 32 = .ok (.iinc 3 1, 3) := by decide +kernel
theorem dX3_takePays_35 : decode cX3_takePays 35 = .ok (.goto (-33), 3) := by decide +kernel
theorem dX3_takePays_38 : decode cX3_takePays 38 = .ok (.return_, 1) := by decide +kernel
theorem dX3_fewestFrom_0 : decode cX3_fewestFrom 0 = .ok (.bipush (-6), 2) := by decide +kernel
theorem dX3_fewestFrom_2 : decode cX3_fewestFrom 2 = .ok (.istore_n 3, 1) := by decide +kernel
theorem dX3_fewestFrom_3 : decode cX3_fewestFrom 3 = .ok (.iconst 0, 1) := by decide +kernel
theorem dX3_fewestFrom_4 : decode cX3_fewestFrom 4 = .ok (.istore 4, 2) := by decide +kernel
theorem dX3_fewestFrom_6 : decode cX3_fewestFrom 6 = .ok (.iload 4, 2) := by decide +kernel
theorem dX3_fewestFrom_8 : decode cX3_fewestFrom 8 = .ok (.aload_n 0, 1) := by decide +kernel
theorem dX3_fewestFrom_9 : decode cX3_fewestFrom 9 = .ok (.getfield 15, 3) := by decide +kernel
theorem dX3_fewestFrom_12 : decode cX3_fewestFrom 12 = .ok (.arraylength, 1) := by decide +kernel
theorem dX3_fewestFrom_13 : decode cX3_fewestFrom 13 = .ok (.if_icmp .ge 72, 3) := by decide +kernel
theorem dX3_fewestFrom_16 : decode cX3_fewestFrom 16 = .ok (.aload_n 0, 1) := by decide +kernel
theorem dX3_fewestFrom_17 : decode cX3_fewestFrom 17 = .ok (.getfield 15, 3) := by decide +kernel
theorem dX3_fewestFrom_20 : decode cX3_fewestFrom 20 = .ok (.iload 4, 2) := by decide +kernel
theorem dX3_fewestFrom_22 : decode cX3_fewestFrom 22 = .ok (.iload 4, 2) := by decide +kernel
theorem dX3_fewestFrom_24 : decode cX3_fewestFrom 24 = .ok (.iconst 1, 1) := by decide +kernel
theorem dX3_fewestFrom_25 : decode cX3_fewestFrom 25 = .ok (.iload_n 1, 1) := by decide +kernel
theorem dX3_fewestFrom_26 : decode cX3_fewestFrom 26 = .ok (.ishl, 1) := by decide +kernel
theorem dX3_fewestFrom_27 : decode cX3_fewestFrom 27 = .ok (.if_icmp .ne 12, 3) := by decide +kernel
theorem dX3_fewestFrom_30 : decode cX3_fewestFrom 30 = .ok (.aload_n 0, 1) := by decide +kernel
theorem dX3_fewestFrom_31 : decode cX3_fewestFrom 31 = .ok (.iload_n 2, 1) := by decide +kernel
theorem dX3_fewestFrom_32 : decode cX3_fewestFrom 32 = .ok (.iload_n 1, 1) := by decide +kernel
theorem dX3_fewestFrom_33 : decode cX3_fewestFrom 33 = .ok (.invokevirtual 48, 3) := by decide +kernel
theorem dX3_fewestFrom_36 : decode cX3_fewestFrom 36 = .ok (.goto 10, 3) := by decide +kernel
theorem dX3_fewestFrom_39 : decode cX3_fewestFrom 39 = .ok (.aload_n 0, 1) := by decide +kernel
theorem dX3_fewestFrom_40 : decode cX3_fewestFrom 40 = .ok (.iload 4, 2) := by decide +kernel
theorem dX3_fewestFrom_42 : decode cX3_fewestFrom 42 = .ok (.iload_n 1, 1) := by decide +kernel
theorem dX3_fewestFrom_43 : decode cX3_fewestFrom 43 = .ok (.invokevirtual 51, 3) := by decide +kernel
theorem dX3_fewestFrom_46 : decode cX3_fewestFrom 46 = .ok (.iastore, 1) := by decide +kernel
theorem dX3_fewestFrom_47 : decode cX3_fewestFrom 47 = .ok (.iload 4, 2) := by decide +kernel
theorem dX3_fewestFrom_49 : decode cX3_fewestFrom 49 = .ok (.invokestatic 54, 3) := by decide +kernel
theorem dX3_fewestFrom_52 : decode cX3_fewestFrom 52 = .ok (.istore 5, 2) := by decide +kernel
theorem dX3_fewestFrom_54 : decode cX3_fewestFrom 54 = .ok (.aload_n 0, 1) := by decide +kernel
theorem dX3_fewestFrom_55 : decode cX3_fewestFrom 55 = .ok (.getfield 15, 3) := by decide +kernel
theorem dX3_fewestFrom_58 : decode cX3_fewestFrom 58 = .ok (.iload 4, 2) := by decide +kernel
theorem dX3_fewestFrom_60 : decode cX3_fewestFrom 60 = .ok (.iaload, 1) := by decide +kernel
theorem dX3_fewestFrom_61 : decode cX3_fewestFrom 61 = .ok (.ifCond .ne 18, 3) := by decide +kernel
theorem dX3_fewestFrom_64 : decode cX3_fewestFrom 64 = .ok (.iload_n 3, 1) := by decide +kernel
theorem dX3_fewestFrom_65 : decode cX3_fewestFrom 65 = .ok (.bipush (-6), 2) := by decide +kernel
theorem dX3_fewestFrom_67 : decode cX3_fewestFrom 67 = .ok (.if_icmp .eq 9, 3) := by decide +kernel
theorem dX3_fewestFrom_70 : decode cX3_fewestFrom 70 = .ok (.iload 5, 2) := by decide +kernel
theorem dX3_fewestFrom_72 : decode cX3_fewestFrom 72 = .ok (.iload_n 3, 1) := by decide +kernel
theorem dX3_fewestFrom_73 : decode cX3_fewestFrom 73 = .ok (.if_icmp .ge 6, 3) := by decide +kernel
theorem dX3_fewestFrom_76 : decode cX3_fewestFrom 76 = .ok (.iload 5, 2) := by decide +kernel
theorem dX3_fewestFrom_78 : decode cX3_fewestFrom 78 = .ok (.istore_n 3, 1) := by decide +kernel
theorem dX3_fewestFrom_79 : decode cX3_fewestFrom 79 = .ok (.iinc 4 1, 3) := by decide +kernel
theorem dX3_fewestFrom_82 : decode cX3_fewestFrom 82 = .ok (.goto (-76), 3) := by decide +kernel
theorem dX3_fewestFrom_85 : decode cX3_fewestFrom 85 = .ok (.iload_n 3, 1) := by decide +kernel
theorem dX3_fewestFrom_86 : decode cX3_fewestFrom 86 = .ok (.ireturn, 1) := by decide +kernel
theorem dX3_leastLeft_0 : decode cX3_leastLeft 0 = .ok (.iconst (-1), 1) := by decide +kernel
theorem dX3_leastLeft_1 : decode cX3_leastLeft 1 = .ok (.istore_n 3, 1) := by decide +kernel
theorem dX3_leastLeft_2 : decode cX3_leastLeft 2 = .ok (.iconst 0, 1) := by decide +kernel
theorem dX3_leastLeft_3 : decode cX3_leastLeft 3 = .ok (.istore 4, 2) := by decide +kernel
theorem dX3_leastLeft_5 : decode cX3_leastLeft 5 = .ok (.iload 4, 2) := by decide +kernel
theorem dX3_leastLeft_7 : decode cX3_leastLeft 7 = .ok (.bipush 6, 2) := by decide +kernel
theorem dX3_leastLeft_9 : decode cX3_leastLeft 9 = .ok (.if_icmp .ge 86, 3) := by decide +kernel
theorem dX3_leastLeft_12 : decode cX3_leastLeft 12 = .ok (.iload_n 1, 1) := by decide +kernel
theorem dX3_leastLeft_13 : decode cX3_leastLeft 13 = .ok (.iconst 1, 1) := by decide +kernel
theorem dX3_leastLeft_14 : decode cX3_leastLeft 14 = .ok (.iload 4, 2) := by decide +kernel
theorem dX3_leastLeft_16 : decode cX3_leastLeft 16 = .ok (.ishl, 1) := by decide +kernel
theorem dX3_leastLeft_17 : decode cX3_leastLeft 17 = .ok (.iconst (-1), 1) := by decide +kernel
theorem dX3_leastLeft_18 : decode cX3_leastLeft 18 = .ok (.ixor, 1) := by decide +kernel
theorem dX3_leastLeft_19 : decode cX3_leastLeft 19 = .ok (.iand, 1) := by decide +kernel
theorem dX3_leastLeft_20 : decode cX3_leastLeft 20 = .ok (.istore 5, 2) := by decide +kernel
theorem dX3_leastLeft_22 : decode cX3_leastLeft 22 = .ok (.iload 4, 2) := by decide +kernel
theorem dX3_leastLeft_24 : decode cX3_leastLeft 24 = .ok (.iload_n 2, 1) := by decide +kernel
theorem dX3_leastLeft_25 : decode cX3_leastLeft 25 = .ok (.if_icmp .eq 64, 3) := by decide +kernel
theorem dX3_leastLeft_28 : decode cX3_leastLeft 28 = .ok (.iload_n 1, 1) := by decide +kernel
theorem dX3_leastLeft_29 : decode cX3_leastLeft 29 = .ok (.iload 4, 2) := by decide +kernel
theorem dX3_leastLeft_31 : decode cX3_leastLeft 31 = .ok (.invokestatic 59, 3) := by decide +kernel
theorem dX3_leastLeft_34 : decode cX3_leastLeft 34 = .ok (.iconst 1, 1) := by decide +kernel
theorem dX3_leastLeft_35 : decode cX3_leastLeft 35 = .ok (.if_icmp .ne 54, 3) := by decide +kernel
theorem dX3_leastLeft_38 : decode cX3_leastLeft 38 = .ok (.iload 5, 2) := by decide +kernel
theorem dX3_leastLeft_40 : decode cX3_leastLeft 40 = .ok (.iconst 0, 1) := by decide +kernel
theorem dX3_leastLeft_41 : decode cX3_leastLeft 41 = .ok (.aload_n 0, 1) := by decide +kernel
theorem dX3_leastLeft_42 : decode cX3_leastLeft 42 = .ok (.getfield 15, 3) := by decide +kernel
theorem dX3_leastLeft_45 : decode cX3_leastLeft 45 = .ok (.arraylength, 1) := by decide +kernel
theorem dX3_leastLeft_46 : decode cX3_leastLeft 46 = .ok (.iconst 1, 1) := by decide +kernel
theorem dX3_leastLeft_47 : decode cX3_leastLeft 47 = .ok (.isub, 1) := by decide +kernel
theorem dX3_leastLeft_48 : decode cX3_leastLeft 48 = .ok (.invokestatic 62, 3) := by decide +kernel
theorem dX3_leastLeft_51 : decode cX3_leastLeft 51 = .ok (.ifCond .eq 38, 3) := by decide +kernel
theorem dX3_leastLeft_54 : decode cX3_leastLeft 54 = .ok (.aload_n 0, 1) := by decide +kernel
theorem dX3_leastLeft_55 : decode cX3_leastLeft 55 = .ok (.aload_n 0, 1) := by decide +kernel
theorem dX3_leastLeft_56 : decode cX3_leastLeft 56 = .ok (.getfield 15, 3) := by decide +kernel
theorem dX3_leastLeft_59 : decode cX3_leastLeft 59 = .ok (.iload 5, 2) := by decide +kernel
theorem dX3_leastLeft_61 : decode cX3_leastLeft 61 = .ok (.iaload, 1) := by decide +kernel
theorem dX3_leastLeft_62 : decode cX3_leastLeft 62 = .ok (.iload 4, 2) := by decide +kernel
theorem dX3_leastLeft_64 : decode cX3_leastLeft 64 = .ok (.invokevirtual 48, 3) := by decide +kernel
theorem dX3_leastLeft_67 : decode cX3_leastLeft 67 = .ok (.istore 6, 2) := by decide +kernel
theorem dX3_leastLeft_69 : decode cX3_leastLeft 69 = .ok (.iload 6, 2) := by decide +kernel
theorem dX3_leastLeft_71 : decode cX3_leastLeft 71 = .ok (.iconst (-1), 1) := by decide +kernel
theorem dX3_leastLeft_72 : decode cX3_leastLeft 72 = .ok (.if_icmp .eq 17, 3) := by decide +kernel
theorem dX3_leastLeft_75 : decode cX3_leastLeft 75 = .ok (.iload_n 3, 1) := by decide +kernel
theorem dX3_leastLeft_76 : decode cX3_leastLeft 76 = .ok (.iconst (-1), 1) := by decide +kernel
theorem dX3_leastLeft_77 : decode cX3_leastLeft 77 = .ok (.if_icmp .eq 9, 3) := by decide +kernel
theorem dX3_leastLeft_80 : decode cX3_leastLeft 80 = .ok (.iload 6, 2) := by decide +kernel
theorem dX3_leastLeft_82 : decode cX3_leastLeft 82 = .ok (.iload_n 3, 1) := by decide +kernel
theorem dX3_leastLeft_83 : decode cX3_leastLeft 83 = .ok (.if_icmp .ge 6, 3) := by decide +kernel
theorem dX3_leastLeft_86 : decode cX3_leastLeft 86 = .ok (.iload 6, 2) := by decide +kernel
theorem dX3_leastLeft_88 : decode cX3_leastLeft 88 = .ok (.istore_n 3, 1) := by decide +kernel
theorem dX3_leastLeft_89 : decode cX3_leastLeft 89 = .ok (.iinc 4 1, 3) := by decide +kernel
theorem dX3_leastLeft_92 : decode cX3_leastLeft 92 = .ok (.goto (-87), 3) := by decide +kernel
theorem dX3_leastLeft_95 : decode cX3_leastLeft 95 = .ok (.iload_n 3, 1) := by decide +kernel
theorem dX3_leastLeft_96 : decode cX3_leastLeft 96 = .ok (.ireturn, 1) := by decide +kernel
theorem dX3_afterPiece_0 : decode cX3_afterPiece 0 = .ok (.iload_n 1, 1) := by decide +kernel
theorem dX3_afterPiece_1 : decode cX3_afterPiece 1 = .ok (.iconst (-1), 1) := by decide +kernel
theorem dX3_afterPiece_2 : decode cX3_afterPiece 2 = .ok (.if_icmp .eq 22, 3) := by decide +kernel
theorem dX3_afterPiece_5 : decode cX3_afterPiece 5 = .ok (.iload_n 2, 1) := by decide +kernel
theorem dX3_afterPiece_6 : decode cX3_afterPiece 6 = .ok (.iconst 0, 1) := by decide +kernel
theorem dX3_afterPiece_7 : decode cX3_afterPiece 7 = .ok (.iconst 5, 1) := by decide +kernel
theorem dX3_afterPiece_8 : decode cX3_afterPiece 8 = .ok (.invokestatic 62, 3) := by decide +kernel
theorem dX3_afterPiece_11 : decode cX3_afterPiece 11 = .ok (.ifCond .eq 13, 3) := by decide +kernel
theorem dX3_afterPiece_14 : decode cX3_afterPiece 14 = .ok (.aload_n 0, 1) := by decide +kernel
theorem dX3_afterPiece_15 : decode cX3_afterPiece 15 = .ok (.getfield 9, 3) := by decide +kernel
theorem dX3_afterPiece_18 : decode cX3_afterPiece 18 = .ok (.iload_n 2, 1) := by decide +kernel
theorem dX3_afterPiece_19 : decode cX3_afterPiece 19 = .ok (.iaload, 1) := by decide +kernel
theorem dX3_afterPiece_20 : decode cX3_afterPiece 20 = .ok (.iconst (-1), 1) := by decide +kernel
theorem dX3_afterPiece_21 : decode cX3_afterPiece 21 = .ok (.if_icmp .ne 5, 3) := by decide +kernel
theorem dX3_afterPiece_24 : decode cX3_afterPiece 24 = .ok (.iconst (-1), 1) := by decide +kernel
theorem dX3_afterPiece_25 : decode cX3_afterPiece 25 = .ok (.ireturn, 1) := by decide +kernel
theorem dX3_afterPiece_26 : decode cX3_afterPiece 26 = .ok (.iconst 0, 1) := by decide +kernel
theorem dX3_afterPiece_27 : decode cX3_afterPiece 27 = .ok (.iload_n 1, 1) := by decide +kernel
theorem dX3_afterPiece_28 : decode cX3_afterPiece 28 = .ok (.aload_n 0, 1) := by decide +kernel
theorem dX3_afterPiece_29 : decode cX3_afterPiece 29 = .ok (.getfield 9, 3) := by decide +kernel
theorem dX3_afterPiece_32 : decode cX3_afterPiece 32 = .ok (.iload_n 2, 1) := by decide +kernel
theorem dX3_afterPiece_33 : decode cX3_afterPiece 33 = .ok (.iaload, 1) := by decide +kernel
theorem dX3_afterPiece_34 : decode cX3_afterPiece 34 = .ok (.isub, 1) := by decide +kernel
theorem dX3_afterPiece_35 : decode cX3_afterPiece 35 = .ok (.invokestatic 66, 3) := by decide +kernel
theorem dX3_afterPiece_38 : decode cX3_afterPiece 38 = .ok (.istore_n 3, 1) := by decide +kernel
theorem dX3_afterPiece_39 : decode cX3_afterPiece 39 = .ok (.iload_n 3, 1) := by decide +kernel
theorem dX3_afterPiece_40 : decode cX3_afterPiece 40 = .ok (.iload_n 3, 1) := by decide +kernel
theorem dX3_afterPiece_41 : decode cX3_afterPiece 41 = .ok (.bipush 10, 2) := by decide +kernel
theorem dX3_afterPiece_43 : decode cX3_afterPiece 43 = .ok (.idiv, 1) := by decide +kernel
theorem dX3_afterPiece_44 : decode cX3_afterPiece 44 = .ok (.iadd, 1) := by decide +kernel
theorem dX3_afterPiece_45 : decode cX3_afterPiece 45 = .ok (.ireturn, 1) := by decide +kernel
theorem dX4_init_0 : decode cX4_init 0 = .ok (.aload_n 0, 1) := by decide +kernel
theorem dX4_init_1 : decode cX4_init 1 = .ok (.invokespecial 3, 3) := by decide +kernel
theorem dX4_init_4 : decode cX4_init 4 = .ok (.aload_n 0, 1) := by decide +kernel
theorem dX4_init_5 : decode cX4_init 5 = .ok (.bipush 60, 2) := by decide +kernel
theorem dX4_init_7 : decode cX4_init 7 = .ok (.newarray .int, 2) := by decide +kernel
theorem dX4_init_9 : decode cX4_init 9 = .ok (.putfield 11, 3) := by decide +kernel
theorem dX4_init_12 : decode cX4_init 12 = .ok (.return_, 1) := by decide +kernel
theorem dX4_add_0 : decode cX4_add 0 = .ok (.aload_n 0, 1) := by decide +kernel
theorem dX4_add_1 : decode cX4_add 1 = .ok (.getfield 15, 3) := by decide +kernel
theorem dX4_add_4 : decode cX4_add 4 = .ok (.iconst 0, 1) := by decide +kernel
theorem dX4_add_5 : decode cX4_add 5 = .ok (.bipush 59, 2) := by decide +kernel
theorem dX4_add_7 : decode cX4_add 7 = .ok (.invokestatic 19, 3) := by decide +kernel
theorem dX4_add_10 : decode cX4_add 10 = .ok (.ifCond .ne 5, 3) := by decide +kernel
theorem dX4_add_13 : decode cX4_add 13 = .ok (.iconst 0, 1) := by decide +kernel
theorem dX4_add_14 : decode cX4_add 14 = .ok (.ireturn, 1) := by decide +kernel
theorem dX4_add_15 : decode cX4_add 15 = .ok (.aload_n 0, 1) := by decide +kernel
theorem dX4_add_16 : decode cX4_add 16 = .ok (.getfield 11, 3) := by decide +kernel
theorem dX4_add_19 : decode cX4_add 19 = .ok (.aload_n 0, 1) := by decide +kernel
theorem dX4_add_20 : decode cX4_add 20 = .ok (.getfield 15, 3) := by decide +kernel
theorem dX4_add_23 : decode cX4_add 23 = .ok (.iload_n 1, 1) := by decide +kernel
theorem dX4_add_24 : decode cX4_add 24 = .ok (.iastore, 1) := by decide +kernel
theorem dX4_add_25 : decode cX4_add 25 = .ok (.aload_n 0, 1) := by decide +kernel
theorem dX4_add_26 : decode cX4_add 26 = .ok (.dup, 1) := by decide +kernel
theorem dX4_add_27 : decode cX4_add 27 = .ok (.getfield 15, 3) := by decide +kernel
theorem dX4_add_30 : decode cX4_add 30 = .ok (.iconst 1, 1) := by decide +kernel
theorem dX4_add_31 : decode cX4_add 31 = .ok (.iadd, 1) := by decide +kernel
theorem dX4_add_32 : decode cX4_add 32 = .ok (.putfield 15, 3) := by decide +kernel
theorem dX4_add_35 : decode cX4_add 35 = .ok (.iconst 1, 1) := by decide +kernel
theorem dX4_add_36 : decode cX4_add 36 = .ok (.ireturn, 1) := by decide +kernel
theorem dX4_signAt_0 : decode cX4_signAt 0 = .ok (.iload_n 1, 1) := by decide +kernel
theorem dX4_signAt_1 : decode cX4_signAt 1 = .ok (.iconst 0, 1) := by decide +kernel
theorem dX4_signAt_2 : decode cX4_signAt 2 = .ok (.bipush 59, 2) := by decide +kernel
theorem dX4_signAt_4 : decode cX4_signAt 4 = .ok (.invokestatic 19, 3) := by decide +kernel
theorem dX4_signAt_7 : decode cX4_signAt 7 = .ok (.ifCond .eq 20, 3) := by decide +kernel
theorem dX4_signAt_10 : decode cX4_signAt 10 = .ok (.iload_n 1, 1) := by decide +kernel
theorem dX4_signAt_11 : decode cX4_signAt 11 = .ok (.aload_n 0, 1) := by decide +kernel
theorem dX4_signAt_12 : decode cX4_signAt 12 = .ok (.getfield 15, 3) := by decide +kernel
theorem dX4_signAt_15 : decode cX4_signAt 15 = .ok (.if_icmp .ge 12, 3) := by decide +kernel
theorem dX4_signAt_18 : decode cX4_signAt 18 = .ok (.aload_n 0, 1) := by decide +kernel
theorem dX4_signAt_19 : decode cX4_signAt 19 = .ok (.getfield 11, 3) := by decide +kernel
theorem dX4_signAt_22 : decode cX4_signAt 22 = .ok (.iload_n 1, 1) := by decide +kernel
theorem dX4_signAt_23 : decode cX4_signAt 23 = .ok (.iaload, 1) := by decide +kernel
theorem dX4_signAt_24 : decode cX4_signAt 24 = .ok (.goto 4, 3) := by decide +kernel
theorem dX4_signAt_27 : decode cX4_signAt 27 = .ok (.iconst 0, 1) := by decide +kernel
theorem dX4_signAt_28 : decode cX4_signAt 28 = .ok (.ireturn, 1) := by decide +kernel
theorem dX4_isPiece_0 : decode cX4_isPiece 0 = .ok (.iload_n 0, 1) := by decide +kernel
theorem dX4_isPiece_1 : decode cX4_isPiece 1 = .ok (.bipush 48, 2) := by decide +kernel
theorem dX4_isPiece_3 : decode cX4_isPiece 3 = .ok (.bipush 53, 2) := by decide +kernel
theorem dX4_isPiece_5 : decode cX4_isPiece 5 = .ok (.invokestatic 19, 3) := by decide +kernel
theorem dX4_isPiece_8 : decode cX4_isPiece 8 = .ok (.ireturn, 1) := by decide +kernel
theorem dX4_isLetter_0 : decode cX4_isLetter 0 = .ok (.iload_n 0, 1) := by decide +kernel
theorem dX4_isLetter_1 : decode cX4_isLetter 1 = .ok (.bipush 65, 2) := by decide +kernel
theorem dX4_isLetter_3 : decode cX4_isLetter 3 = .ok (.bipush 72, 2) := by decide +kernel
theorem dX4_isLetter_5 : decode cX4_isLetter 5 = .ok (.invokestatic 19, 3) := by decide +kernel
theorem dX4_isLetter_8 : decode cX4_isLetter 8 = .ok (.ireturn, 1) := by decide +kernel
theorem dX4_lengthOf_0 : decode cX4_lengthOf 0 = .ok (.iload_n 0, 1) := by decide +kernel
theorem dX4_lengthOf_1 : decode cX4_lengthOf 1 = .ok (.invokestatic 23, 3) := by decide +kernel
theorem dX4_lengthOf_4 : decode cX4_lengthOf 4 = .ok (.ifCond .ne 5, 3) := by decide +kernel
theorem dX4_lengthOf_7 : decode cX4_lengthOf 7 = .ok (.iconst 1, 1) := by decide +kernel
theorem dX4_lengthOf_8 : decode cX4_lengthOf 8 = .ok (.ireturn, 1) := by decide +kernel
theorem dX4_lengthOf_9 : decode cX4_lengthOf 9 = .ok (.iload_n 1, 1) := by decide +kernel
theorem dX4_lengthOf_10 : decode cX4_lengthOf 10 = .ok (.bipush 43, 2) := by decide +kernel
theorem dX4_lengthOf_12 : decode cX4_lengthOf 12 = .ok (.if_icmp .eq 9, 3) := by decide +kernel
theorem dX4_lengthOf_15 : decode cX4_lengthOf 15 = .ok (.iload_n 1, 1) := by decide +kernel
theorem dX4_lengthOf_16 : decode cX4_lengthOf 16 = .ok (.bipush 61, 2) := by decide +kernel
theorem dX4_lengthOf_18 : decode cX4_lengthOf 18 = .ok (.if_icmp .ne 7, 3) := by decide +kernel
theorem dX4_lengthOf_21 : decode cX4_lengthOf 21 = .ok (.iconst 3, 1) := by decide +kernel
theorem dX4_lengthOf_22 : decode cX4_lengthOf 22 = .ok (.goto 4, 3) := by decide +kernel
theorem dX4_lengthOf_25 : decode cX4_lengthOf 25 = .ok (.iconst 2, 1) := by decide +kernel
theorem dX4_lengthOf_26 : decode cX4_lengthOf 26 = .ok (.ireturn, 1) := by decide +kernel
theorem dX4_isMark_0 : decode cX4_isMark 0 = .ok (.iload_n 0, 1) := by decide +kernel
theorem dX4_isMark_1 : decode cX4_isMark 1 = .ok (.bipush 43, 2) := by decide +kernel
theorem dX4_isMark_3 : decode cX4_isMark 3 = .ok (.if_icmp .eq 21, 3) := by decide +kernel
theorem dX4_isMark_6 : decode cX4_isMark 6 = .ok (.iload_n 0, 1) := by decide +kernel
theorem dX4_isMark_7 : decode cX4_isMark 7 = .ok (.bipush 42, 2) := by decide +kernel
theorem dX4_isMark_9 : decode cX4_isMark 9 = .ok (.if_icmp .eq 15, 3) := by decide +kernel
theorem dX4_isMark_12 : decode cX4_isMark 12 = .ok (.iload_n 0, 1) := by decide +kernel
theorem dX4_isMark_13 : decode cX4_isMark 13 = .ok (.bipush 61, 2) := by decide +kernel
theorem dX4_isMark_15 : decode cX4_isMark 15 = .ok (.if_icmp .eq 9, 3) := by decide +kernel
theorem dX4_isMark_18 : decode cX4_isMark 18 = .ok (.iload_n 0, 1) := by decide +kernel
theorem dX4_isMark_19 : decode cX4_isMark 19 = .ok (.bipush 120, 2) := by decide +kernel
theorem dX4_isMark_21 : decode cX4_isMark 21 = .ok (.if_icmp .ne 7, 3) := by decide +kernel
theorem dX4_isMark_24 : decode cX4_isMark 24 = .ok (.iconst 1, 1) := by decide +kernel
theorem dX4_isMark_25 : decode cX4_isMark 25 = .ok (.goto 4, 3) := by decide +kernel
theorem dX4_isMark_28 : decode cX4_isMark 28 = .ok (.iconst 0, 1) := by decide +kernel
theorem dX4_isMark_29 : decode cX4_isMark 29 = .ok (.ireturn, 1) := by decide +kernel
theorem dX4_faultIn_0 : decode cX4_faultIn 0 = .ok (.aload_n 0, 1) := by decide +kernel
theorem dX4_faultIn_1 : decode cX4_faultIn 1 = .ok (.iload_n 1, 1) := by decide +kernel
theorem dX4_faultIn_2 : decode cX4_faultIn 2 = .ok (.invokevirtual 27, 3) := by decide +kernel
theorem dX4_faultIn_5 : decode cX4_faultIn 5 = .ok (.istore_n 2, 1) := by decide +kernel
theorem dX4_faultIn_6 : decode cX4_faultIn 6 = .ok (.iload_n 2, 1) := by decide +kernel
theorem dX4_faultIn_7 : decode cX4_faultIn 7 = .ok (.invokestatic 31, 3) := by decide +kernel
theorem dX4_faultIn_10 : decode cX4_faultIn 10 = .ok (.ifCond .ne 9, 3) := by decide +kernel
theorem dX4_faultIn_13 : decode cX4_faultIn 13 = .ok (.iload_n 2, 1) := by decide +kernel
theorem dX4_faultIn_14 : decode cX4_faultIn 14 = .ok (.bipush 46, 2) := by decide +kernel
theorem dX4_faultIn_16 : decode cX4_faultIn 16 = .ok (.if_icmp .ne 6, 3) := by decide +kernel
theorem dX4_faultIn_19 : decode cX4_faultIn 19 = .ok (.bipush (-6), 2) := by decide +kernel
theorem dX4_faultIn_21 : decode cX4_faultIn 21 = .ok (.ireturn, 1) := by decide +kernel
theorem dX4_faultIn_22 : decode cX4_faultIn 22 = .ok (.iload_n 2, 1) := by decide +kernel
theorem dX4_faultIn_23 : decode cX4_faultIn 23 = .ok (.invokestatic 23, 3) := by decide +kernel
theorem dX4_faultIn_26 : decode cX4_faultIn 26 = .ok (.ifCond .ne 5, 3) := by decide +kernel
theorem dX4_faultIn_29 : decode cX4_faultIn 29 = .ok (.iload_n 1, 1) := by decide +kernel
theorem dX4_faultIn_30 : decode cX4_faultIn 30 = .ok (.ireturn, 1) := by decide +kernel
theorem dX4_faultIn_31 : decode cX4_faultIn 31 = .ok (.aload_n 0, 1) := by decide +kernel
theorem dX4_faultIn_32 : decode cX4_faultIn 32 = .ok (.iload_n 1, 1) := by decide +kernel
theorem dX4_faultIn_33 : decode cX4_faultIn 33 = .ok (.iconst 1, 1) := by decide +kernel
theorem dX4_faultIn_34 : decode cX4_faultIn 34 = .ok (.iadd, 1) := by decide +kernel
theorem dX4_faultIn_35 : decode cX4_faultIn 35 = .ok (.invokevirtual 27, 3) := by decide +kernel
theorem dX4_faultIn_38 : decode cX4_faultIn 38 = .ok (.istore_n 3, 1) := by decide +kernel
theorem dX4_faultIn_39 : decode cX4_faultIn 39 = .ok (.iload_n 3, 1) := by decide +kernel
theorem dX4_faultIn_40 : decode cX4_faultIn 40 = .ok (.invokestatic 34, 3) := by decide +kernel
theorem dX4_faultIn_43 : decode cX4_faultIn 43 = .ok (.ifCond .ne 7, 3) := by decide +kernel
theorem dX4_faultIn_46 : decode cX4_faultIn 46 = .ok (.iload_n 1, 1) := by decide +kernel
theorem dX4_faultIn_47 : decode cX4_faultIn 47 = .ok (.iconst 1, 1) := by decide +kernel
theorem dX4_faultIn_48 : decode cX4_faultIn 48 = .ok (.iadd, 1) := by decide +kernel
theorem dX4_faultIn_49 : decode cX4_faultIn 49 = .ok (.ireturn, 1) := by decide +kernel
theorem dX4_faultIn_50 : decode cX4_faultIn 50 = .ok (.aload_n 0, 1) := by decide +kernel
theorem dX4_faultIn_51 : decode cX4_faultIn 51 = .ok (.iload_n 1, 1) := by decide +kernel
theorem dX4_faultIn_52 : decode cX4_faultIn 52 = .ok (.iconst 2, 1) := by decide +kernel
theorem dX4_faultIn_53 : decode cX4_faultIn 53 = .ok (.iadd, 1) := by decide +kernel
theorem dX4_faultIn_54 : decode cX4_faultIn 54 = .ok (.invokevirtual 27, 3) := by decide +kernel
theorem dX4_faultIn_57 : decode cX4_faultIn 57 = .ok (.istore 4, 2) := by decide +kernel
theorem dX4_faultIn_59 : decode cX4_faultIn 59 = .ok (.iload_n 3, 1) := by decide +kernel
theorem dX4_faultIn_60 : decode cX4_faultIn 60 = .ok (.bipush 43, 2) := by decide +kernel
theorem dX4_faultIn_62 : decode cX4_faultIn 62 = .ok (.if_icmp .ne 15, 3) := by decide +kernel
theorem dX4_faultIn_65 : decode cX4_faultIn 65 = .ok (.iload 4, 2) := by decide +kernel
theorem dX4_faultIn_67 : decode cX4_faultIn 67 = .ok (.bipush 49, 2) := by decide +kernel
theorem dX4_faultIn_69 : decode cX4_faultIn 69 = .ok (.bipush 57, 2) := by decide +kernel
theorem dX4_faultIn_71 : decode cX4_faultIn 71 = .ok (.invokestatic 19, 3) := by decide +kernel
theorem dX4_faultIn_74 : decode cX4_faultIn 74 = .ok (.ifCond .eq 17, 3) := by decide +kernel
theorem dX4_faultIn_77 : decode cX4_faultIn 77 = .ok (.iload_n 3, 1) := by decide +kernel
theorem dX4_faultIn_78 : decode cX4_faultIn 78 = .ok (.bipush 61, 2) := by decide +kernel
theorem dX4_faultIn_80 : decode cX4_faultIn 80 = .ok (.if_icmp .ne 15, 3) := by decide +kernel
theorem dX4_faultIn_83 : decode cX4_faultIn 83 = .ok (.iload 4, 2) := by decide +kernel
theorem dX4_faultIn_85 : decode cX4_faultIn 85 = .ok (.invokestatic 23, 3) := by decide +kernel
theorem dX4_faultIn_88 : decode cX4_faultIn 88 = .ok (.ifCond .ne 7, 3) := by decide +kernel
theorem dX4_faultIn_91 : decode cX4_faultIn 91 = .ok (.iload_n 1, 1) := by decide +kernel
theorem dX4_faultIn_92 : decode cX4_faultIn 92 = .ok (.iconst 2, 1) := by decide +kernel
theorem dX4_faultIn_93 : decode cX4_faultIn 93 = .ok (.iadd, 1) := by decide +kernel
theorem dX4_faultIn_94 : decode cX4_faultIn 94 = .ok (.ireturn, 1) := by decide +kernel
theorem dX4_faultIn_95 : decode cX4_faultIn 95 = .ok (.bipush (-6), 2) := by decide +kernel
theorem dX4_faultIn_97 : decode cX4_faultIn 97 = .ok (.ireturn, 1) := by decide +kernel
theorem dX4_faultPlace_0 : decode cX4_faultPlace 0 = .ok (.iconst 0, 1) := by decide +kernel
theorem dX4_faultPlace_1 : decode cX4_faultPlace 1 = .ok (.istore_n 1, 1) := by decide +kernel
theorem dX4_faultPlace_2 : decode cX4_faultPlace 2 = .ok (.iconst 0, 1) := by decide +kernel
theorem dX4_faultPlace_3 : decode cX4_faultPlace 3 = .ok (.istore_n 2, 1) := by decide +kernel
theorem dX4_faultPlace_4 : decode cX4_faultPlace 4 = .ok (.iload_n 2, 1) := by decide +kernel
theorem dX4_faultPlace_5 : decode cX4_faultPlace 5 = .ok (.bipush 60, 2) := by decide +kernel
theorem dX4_faultPlace_7 : decode cX4_faultPlace 7 = .ok (.if_icmp .ge 49, 3) := by decide +kernel
theorem dX4_faultPlace_10 : decode cX4_faultPlace 10 = .ok (.iload_n 1, 1) := by decide +kernel
theorem dX4_faultPlace_11 : decode cX4_faultPlace 11 = .ok (.aload_n 0, 1) := by decide +kernel
theorem dX4_faultPlace_12 : decode cX4_faultPlace 12 = .ok (.getfield 15, 3) := by decide +kernel
theorem dX4_faultPlace_15 : decode cX4_faultPlace 15 = .ok (.if_icmp .ge 41, 3) := by decide +kernel
theorem dX4_faultPlace_18 : decode cX4_faultPlace 18 = .ok (.aload_n 0, 1) := by decide +kernel
theorem dX4_faultPlace_19 : decode cX4_faultPlace 19 = .ok (.iload_n 1, 1) := by decide +kernel
theorem dX4_faultPlace_20 : decode cX4_faultPlace 20 = .ok (.invokevirtual 37, 3) := by decide +kernel
theorem dX4_faultPlace_23 : decode cX4_faultPlace 23 = .ok (.istore_n 3, 1) := by decide +kernel
theorem dX4_faultPlace_24 : decode cX4_faultPlace 24 = .ok (.iload_n 3, 1) := by decide +kernel
theorem dX4_faultPlace_25 : decode cX4_faultPlace 25 = .ok (.bipush (-6), 2) := by decide +kernel
theorem dX4_faultPlace_27 : decode cX4_faultPlace 27 = .ok (.if_icmp .eq 5, 3) := by decide +kernel
theorem dX4_faultPlace_30 : decode cX4_faultPlace 30 = .ok (.iload_n 3, 1) := by decide +kernel
theorem dX4_faultPlace_31 : decode cX4_faultPlace 31 = .ok (.ireturn, 1) := by decide +kernel
theorem dX4_faultPlace_32 : decode cX4_faultPlace 32 = .ok (.iload_n 1, 1) := by decide +kernel
theorem dX4_faultPlace_33 : decode cX4_faultPlace 33 = .ok (.aload_n 0, 1) := by decide +kernel
theorem dX4_faultPlace_34 : decode cX4_faultPlace 34 = .ok (.iload_n 1, 1) := by decide +kernel
theorem dX4_faultPlace_35 : decode cX4_faultPlace 35 = .ok (.invokevirtual 27, 3) := by decide +kernel
theorem dX4_faultPlace_38 : decode cX4_faultPlace 38 = .ok (.aload_n 0, 1) := by decide +kernel
theorem dX4_faultPlace_39 : decode cX4_faultPlace 39 = .ok (.iload_n 1, 1) := by decide +kernel
theorem dX4_faultPlace_40 : decode cX4_faultPlace 40 = .ok (.iconst 1, 1) := by decide +kernel
theorem dX4_faultPlace_41 : decode cX4_faultPlace 41 = .ok (.iadd, 1) := by decide +kernel
theorem dX4_faultPlace_42 : decode cX4_faultPlace 42 = .ok (.invokevirtual 27, 3) := by decide +kernel
theorem dX4_faultPlace_45 : decode cX4_faultPlace 45 = .ok (.invokestatic 40, 3) := by decide +kernel
theorem dX4_faultPlace_48 : decode cX4_faultPlace 48 = .ok (.iadd, 1) := by decide +kernel
theorem dX4_faultPlace_49 : decode cX4_faultPlace 49 = .ok (.istore_n 1, 1) := by decide +kernel
theorem dX4_faultPlace_50 : decode cX4_faultPlace 50 = .ok (.iinc 2 1, 3) := by decide +kernel
theorem dX4_faultPlace_53 : decode cX4_faultPlace 53 = .ok (.goto (-49), 3) := by decide +kernel
theorem dX4_faultPlace_56 : decode cX4_faultPlace 56 = .ok (.bipush (-6), 2) := by decide +kernel
theorem dX4_faultPlace_58 : decode cX4_faultPlace 58 = .ok (.ireturn, 1) := by decide +kernel
theorem dX5_init_0 : decode cX5_init 0 = .ok (.aload_n 0, 1) := by decide +kernel
theorem dX5_init_1 : decode cX5_init 1 = .ok (.invokespecial 3, 3) := by decide +kernel
theorem dX5_init_4 : decode cX5_init 4 = .ok (.aload_n 0, 1) := by decide +kernel
theorem dX5_init_5 : decode cX5_init 5 = .ok (.iconst 4, 1) := by decide +kernel
theorem dX5_init_6 : decode cX5_init 6 = .ok (.newarray .int, 2) := by decide +kernel
theorem dX5_init_8 : decode cX5_init 8 = .ok (.putfield 11, 3) := by decide +kernel
theorem dX5_init_11 : decode cX5_init 11 = .ok (.aload_n 0, 1) := by decide +kernel
theorem dX5_init_12 : decode cX5_init 12 = .ok (.iconst 4, 1) := by decide +kernel
theorem dX5_init_13 : decode cX5_init 13 = .ok (.newarray .int, 2) := by decide +kernel
theorem dX5_init_15 : decode cX5_init 15 = .ok (.putfield 15, 3) := by decide +kernel
theorem dX5_init_18 : decode cX5_init 18 = .ok (.aload_n 0, 1) := by decide +kernel
theorem dX5_init_19 : decode cX5_init 19 = .ok (.iconst 4, 1) := by decide +kernel
theorem dX5_init_20 : decode cX5_init 20 = .ok (.newarray .int, 2) := by decide +kernel
theorem dX5_init_22 : decode cX5_init 22 = .ok (.putfield 18, 3) := by decide +kernel
theorem dX5_init_25 : decode cX5_init 25 = .ok (.return_, 1) := by decide +kernel
theorem dX5_start_0 : decode cX5_start 0 = .ok (.aload_n 0, 1) := by decide +kernel
theorem dX5_start_1 : decode cX5_start 1 = .ok (.getfield 11, 3) := by decide +kernel
theorem dX5_start_4 : decode cX5_start 4 = .ok (.iconst 0, 1) := by decide +kernel
theorem dX5_start_5 : decode cX5_start 5 = .ok (.iload_n 1, 1) := by decide +kernel
theorem dX5_start_6 : decode cX5_start 6 = .ok (.iastore, 1) := by decide +kernel
theorem dX5_start_7 : decode cX5_start 7 = .ok (.aload_n 0, 1) := by decide +kernel
theorem dX5_start_8 : decode cX5_start 8 = .ok (.getfield 11, 3) := by decide +kernel
theorem dX5_start_11 : decode cX5_start 11 = .ok (.iconst 1, 1) := by decide +kernel
theorem dX5_start_12 : decode cX5_start 12 = .ok (.iload_n 2, 1) := by decide +kernel
theorem dX5_start_13 : decode cX5_start 13 = .ok (.iastore, 1) := by decide +kernel
theorem dX5_start_14 : decode cX5_start 14 = .ok (.aload_n 0, 1) := by decide +kernel
theorem dX5_start_15 : decode cX5_start 15 = .ok (.getfield 11, 3) := by decide +kernel
theorem dX5_start_18 : decode cX5_start 18 = .ok (.iconst 2, 1) := by decide +kernel
theorem dX5_start_19 : decode cX5_start 19 = .ok (.iload_n 3, 1) := by decide +kernel
theorem dX5_start_20 : decode cX5_start 20 = .ok (.iastore, 1) := by decide +kernel
theorem dX5_start_21 : decode cX5_start 21 = .ok (.aload_n 0, 1) := by decide +kernel
theorem dX5_start_22 : decode cX5_start 22 = .ok (.getfield 11, 3) := by decide +kernel
theorem dX5_start_25 : decode cX5_start 25 = .ok (.iconst 3, 1) := by decide +kernel
theorem dX5_start_26 : decode cX5_start 26 = .ok (.iload 4, 2) := by decide +kernel
theorem dX5_start_28 : decode cX5_start 28 = .ok (.iastore, 1) := by decide +kernel
theorem dX5_start_29 : decode cX5_start 29 = .ok (.aload_n 0, 1) := by decide +kernel
theorem dX5_start_30 : decode cX5_start 30 = .ok (.bipush 15, 2) := by decide +kernel
theorem dX5_start_32 : decode cX5_start 32 = .ok (.putfield 21, 3) := by decide +kernel
theorem dX5_start_35 : decode cX5_start 35 = .ok (.return_, 1) := by decide +kernel
theorem dX5_swap_0 : decode cX5_swap 0 = .ok (.iconst 0, 1) := by decide +kernel
theorem dX5_swap_1 : decode cX5_swap 1 = .ok (.istore_n 1, 1) := by decide +kernel
theorem dX5_swap_2 : decode cX5_swap 2 = .ok (.iload_n 1, 1) := by decide +kernel
theorem dX5_swap_3 : decode cX5_swap 3 = .ok (.iconst 4, 1) := by decide +kernel
theorem dX5_swap_4 : decode cX5_swap 4 = .ok (.if_icmp .ge 103, 3) := by decide +kernel
theorem dX5_swap_7 : decode cX5_swap 7 = .ok (.iconst 0, 1) := by decide +kernel
theorem dX5_swap_8 : decode cX5_swap 8 = .ok (.istore_n 2, 1) := by decide +kernel
theorem dX5_swap_9 : decode cX5_swap 9 = .ok (.iload_n 2, 1) := by decide +kernel
theorem dX5_swap_10 : decode cX5_swap 10 = .ok (.iconst 4, 1) := by decide +kernel
theorem dX5_swap_11 : decode cX5_swap 11 = .ok (.if_icmp .ge 25, 3) := by decide +kernel
theorem dX5_swap_14 : decode cX5_swap 14 = .ok (.aload_n 0, 1) := by decide +kernel
theorem dX5_swap_15 : decode cX5_swap 15 = .ok (.getfield 18, 3) := by decide +kernel
theorem dX5_swap_18 : decode cX5_swap 18 = .ok (.iload_n 2, 1) := by decide +kernel
theorem dX5_swap_19 : decode cX5_swap 19 = .ok (.aload_n 0, 1) := by decide +kernel
theorem dX5_swap_20 : decode cX5_swap 20 = .ok (.aload_n 0, 1) := by decide +kernel
theorem dX5_swap_21 : decode cX5_swap 21 = .ok (.getfield 11, 3) := by decide +kernel
theorem dX5_swap_24 : decode cX5_swap 24 = .ok (.iload_n 2, 1) := by decide +kernel
theorem dX5_swap_25 : decode cX5_swap 25 = .ok (.iaload, 1) := by decide +kernel
theorem dX5_swap_26 : decode cX5_swap 26 = .ok (.invokevirtual 25, 3) := by decide +kernel
theorem dX5_swap_29 : decode cX5_swap 29 = .ok (.iastore, 1) := by decide +kernel
theorem dX5_swap_30 : decode cX5_swap 30 = .ok (.iinc 2 1, 3) := by decide +kernel
theorem dX5_swap_33 : decode cX5_swap 33 = .ok (.goto (-24), 3) := by decide +kernel
theorem dX5_swap_36 : decode cX5_swap 36 = .ok (.iconst 0, 1) := by decide +kernel
theorem dX5_swap_37 : decode cX5_swap 37 = .ok (.istore_n 2, 1) := by decide +kernel
theorem dX5_swap_38 : decode cX5_swap 38 = .ok (.iconst 0, 1) := by decide +kernel
theorem dX5_swap_39 : decode cX5_swap 39 = .ok (.istore_n 3, 1) := by decide +kernel
theorem dX5_swap_40 : decode cX5_swap 40 = .ok (.iload_n 3, 1) := by decide +kernel
theorem dX5_swap_41 : decode cX5_swap 41 = .ok (.iconst 4, 1) := by decide +kernel
theorem dX5_swap_42 : decode cX5_swap 42 = .ok (.if_icmp .ge 47, 3) := by decide +kernel
theorem dX5_swap_45 : decode cX5_swap 45 = .ok (.aload_n 0, 1) := by decide +kernel
theorem dX5_swap_46 : decode cX5_swap 46 = .ok (.getfield 21, 3) := by decide +kernel
theorem dX5_swap_49 : decode cX5_swap 49 = .ok (.iload_n 3, 1) := by decide +kernel
theorem dX5_swap_50 : decode cX5_swap 50 = .ok (.invokestatic 29, 3) := by decide +kernel
theorem dX5_swap_53 : decode cX5_swap 53 = .ok (.iconst 1, 1) := by decide +kernel
theorem dX5_swap_54 : decode cX5_swap 54 = .ok (.if_icmp .ne 29, 3) := by decide +kernel
theorem dX5_swap_57 : decode cX5_swap 57 = .ok (.aload_n 0, 1) := by decide +kernel
theorem dX5_swap_58 : decode cX5_swap 58 = .ok (.iload_n 3, 1) := by decide +kernel
theorem dX5_swap_59 : decode cX5_swap 59 = .ok (.invokevirtual 33, 3) := by decide +kernel
theorem dX5_swap_62 : decode cX5_swap 62 = .ok (.ifCond .eq 21, 3) := by decide +kernel
theorem dX5_swap_65 : decode cX5_swap 65 = .ok (.aload_n 0, 1) := by decide +kernel
theorem dX5_swap_66 : decode cX5_swap 66 = .ok (.getfield 15, 3) := by decide +kernel
theorem dX5_swap_69 : decode cX5_swap 69 = .ok (.iload_n 3, 1) := by decide +kernel
theorem dX5_swap_70 : decode cX5_swap 70 = .ok (.aload_n 0, 1) := by decide +kernel
theorem dX5_swap_71 : decode cX5_swap 71 = .ok (.getfield 18, 3) := by decide +kernel
theorem dX5_swap_74 : decode cX5_swap 74 = .ok (.iload_n 3, 1) := by decide +kernel
theorem dX5_swap_75 : decode cX5_swap 75 = .ok (.iaload, 1) := by decide +kernel
theorem dX5_swap_76 : decode cX5_swap 76 = .ok (.iastore, 1) := by decide +kernel
theorem dX5_swap_77 : decode cX5_swap 77 = .ok (.iload_n 2, 1) := by decide +kernel
theorem dX5_swap_78 : decode cX5_swap 78 = .ok (.iconst 1, 1) := by decide +kernel
theorem dX5_swap_79 : decode cX5_swap 79 = .ok (.iload_n 3, 1) := by decide +kernel
theorem dX5_swap_80 : decode cX5_swap 80 = .ok (.ishl, 1) := by decide +kernel
theorem dX5_swap_81 : decode cX5_swap 81 = .ok (.ior, 1) := by decide +kernel
theorem dX5_swap_82 : decode cX5_swap 82 = .ok (.istore_n 2, 1) := by decide +kernel
theorem dX5_swap_83 : decode cX5_swap 83 = .ok (.iinc 3 1, 3) := by decide +kernel
theorem dX5_swap_86 : decode cX5_swap 86 = .ok (.goto (-46), 3) := by decide +kernel
theorem dX5_swap_89 : decode cX5_swap 89 = .ok (.aload_n 0, 1) := by decide +kernel
theorem dX5_swap_90 : decode cX5_swap 90 = .ok (.dup, 1) := by decide +kernel
theorem dX5_swap_91 : decode cX5_swap 91 = .ok (.getfield 21, 3) := by decide +kernel
theorem dX5_swap_94 : decode cX5_swap 94 = .ok (.iload_n 2, 1) := by decide +kernel
theorem dX5_swap_95 : decode cX5_swap 95 = .ok (.iconst (-1), 1) := by decide +kernel
theorem dX5_swap_96 : decode cX5_swap 96 = .ok (.ixor, 1) := by decide +kernel
theorem dX5_swap_97 : decode cX5_swap 97 = .ok (.iand, 1) := by decide +kernel
theorem dX5_swap_98 : decode cX5_swap 98 = .ok (.putfield 21, 3) := by decide +kernel
theorem dX5_swap_101 : decode cX5_swap 101 = .ok (.iinc 1 1, 3) := by decide +kernel
theorem dX5_swap_104 : decode cX5_swap 104 = .ok (.goto (-102), 3) := by decide +kernel
theorem dX5_swap_107 : decode cX5_swap 107 = .ok (.return_, 1) := by decide +kernel
theorem dX5_bestLeft_0 : decode cX5_bestLeft 0 = .ok (.iconst 3, 1) := by decide +kernel
theorem dX5_bestLeft_1 : decode cX5_bestLeft 1 = .ok (.istore_n 2, 1) := by decide +kernel
theorem dX5_bestLeft_2 : decode cX5_bestLeft 2 = .ok (.iload_n 2, 1) := by decide +kernel
theorem dX5_bestLeft_3 : decode cX5_bestLeft 3 = .ok (.ifCond .lt 29, 3) := by decide +kernel
theorem dX5_bestLeft_6 : decode cX5_bestLeft 6 = .ok (.iload_n 1, 1) := by decide +kernel
theorem dX5_bestLeft_7 : decode cX5_bestLeft 7 = .ok (.iload_n 2, 1) := by decide +kernel
theorem dX5_bestLeft_8 : decode cX5_bestLeft 8 = .ok (.invokestatic 37, 3) := by decide +kernel
theorem dX5_bestLeft_11 : decode cX5_bestLeft 11 = .ok (.istore_n 3, 1) := by decide +kernel
theorem dX5_bestLeft_12 : decode cX5_bestLeft 12 = .ok (.aload_n 0, 1) := by decide +kernel
theorem dX5_bestLeft_13 : decode cX5_bestLeft 13 = .ok (.getfield 21, 3) := by decide +kernel
theorem dX5_bestLeft_16 : decode cX5_bestLeft 16 = .ok (.iload_n 3, 1) := by decide +kernel
theorem dX5_bestLeft_17 : decode cX5_bestLeft 17 = .ok (.invokestatic 29, 3) := by decide +kernel
theorem dX5_bestLeft_20 : decode cX5_bestLeft 20 = .ok (.iconst 1, 1) := by decide +kernel
theorem dX5_bestLeft_21 : decode cX5_bestLeft 21 = .ok (.if_icmp .ne 5, 3) := by decide +kernel
theorem dX5_bestLeft_24 : decode cX5_bestLeft 24 = .ok (.iload_n 3, 1) := by decide +kernel
theorem dX5_bestLeft_25 : decode cX5_bestLeft 25 = .ok (.ireturn, 1) := by decide +kernel
theorem dX5_bestLeft_26 : decode cX5_bestLeft 26 = .ok (.iinc 2 (-1), 3) := by decide +kernel
theorem dX5_bestLeft_29 : decode cX5_bestLeft 29 = .ok (.goto (-27), 3) := by decide +kernel
theorem dX5_bestLeft_32 : decode cX5_bestLeft 32 = .ok (.bipush (-6), 2) := by decide +kernel
theorem dX5_bestLeft_34 : decode cX5_bestLeft 34 = .ok (.ireturn, 1) := by decide +kernel
theorem dX5_isInRing_0 : decode cX5_isInRing 0 = .ok (.iload_n 1, 1) := by decide +kernel
theorem dX5_isInRing_1 : decode cX5_isInRing 1 = .ok (.istore_n 2, 1) := by decide +kernel
theorem dX5_isInRing_2 : decode cX5_isInRing 2 = .ok (.iconst 0, 1) := by decide +kernel
theorem dX5_isInRing_3 : decode cX5_isInRing 3 = .ok (.istore_n 3, 1) := by decide +kernel
theorem dX5_isInRing_4 : decode cX5_isInRing 4 = .ok (.iload_n 3, 1) := by decide +kernel
theorem dX5_isInRing_5 : decode cX5_isInRing 5 = .ok (.iconst 4, 1) := by decide +kernel
theorem dX5_isInRing_6 : decode cX5_isInRing 6 = .ok (.if_icmp .ge 37, 3) := by decide +kernel
theorem dX5_isInRing_9 : decode cX5_isInRing 9 = .ok (.iload_n 2, 1) := by decide +kernel
theorem dX5_isInRing_10 : decode cX5_isInRing 10 = .ok (.iconst 0, 1) := by decide +kernel
theorem dX5_isInRing_11 : decode cX5_isInRing 11 = .ok (.iconst 3, 1) := by decide +kernel
theorem dX5_isInRing_12 : decode cX5_isInRing 12 = .ok (.invokestatic 40, 3) := by decide +kernel
theorem dX5_isInRing_15 : decode cX5_isInRing 15 = .ok (.ifCond .eq 12, 3) := by decide +kernel
theorem dX5_isInRing_18 : decode cX5_isInRing 18 = .ok (.aload_n 0, 1) := by decide +kernel
theorem dX5_isInRing_19 : decode cX5_isInRing 19 = .ok (.getfield 18, 3) := by decide +kernel
theorem dX5_isInRing_22 : decode cX5_isInRing 22 = .ok (.iload_n 2, 1) := by decide +kernel
theorem dX5_isInRing_23 : decode cX5_isInRing 23 = .ok (.iaload, 1) := by decide +kernel
theorem dX5_isInRing_24 : decode cX5_isInRing 24 = .ok (.goto 5, 3) := by decide +kernel
theorem dX5_isInRing_27 : decode cX5_isInRing 27 = .ok (.bipush (-6), 2) := by decide +kernel
theorem dX5_isInRing_29 : decode cX5_isInRing 29 = .ok (.istore_n 2, 1) := by decide +kernel
theorem dX5_isInRing_30 : decode cX5_isInRing 30 = .ok (.iload_n 2, 1) := by decide +kernel
theorem dX5_isInRing_31 : decode cX5_isInRing 31 = .ok (.iload_n 1, 1) := by decide +kernel
theorem dX5_isInRing_32 : decode cX5_isInRing 32 = .ok (.if_icmp .ne 5, 3) := by decide +kernel
theorem dX5_isInRing_35 : decode cX5_isInRing 35 = .ok (.iconst 1, 1) := by decide +kernel
theorem dX5_isInRing_36 : decode cX5_isInRing 36 = .ok (.ireturn, 1) := by decide +kernel
theorem dX5_isInRing_37 : decode cX5_isInRing 37 = .ok (.iinc 3 1, 3) := by decide +kernel
theorem dX5_isInRing_40 : decode cX5_isInRing 40 = .ok (.goto (-36), 3) := by decide +kernel
theorem dX5_isInRing_43 : decode cX5_isInRing 43 = .ok (.iconst 0, 1) := by decide +kernel
theorem dX5_isInRing_44 : decode cX5_isInRing 44 = .ok (.ireturn, 1) := by decide +kernel
theorem dX5_partsAsDigits_0 : decode cX5_partsAsDigits 0 = .ok (.iconst 0, 1) := by decide +kernel
theorem dX5_partsAsDigits_1 : decode cX5_partsAsDigits 1 = .ok (.istore_n 1, 1) := by decide +kernel
theorem dX5_partsAsDigits_2 : decode cX5_partsAsDigits 2 = .ok (.iconst 0, 1) := by decide +kernel
theorem dX5_partsAsDigits_3 : decode cX5_partsAsDigits 3 = .ok (.istore_n 2, 1) := by decide +kernel
theorem dX5_partsAsDigits_4 : decode cX5_partsAsDigits 4 = .ok (.iload_n 2, 1) := by decide +kernel
theorem dX5_partsAsDigits_5 : decode cX5_partsAsDigits 5 = .ok (.iconst 4, 1) := by decide +kernel
theorem dX5_partsAsDigits_6 : decode cX5_partsAsDigits 6 = .ok (.if_icmp .ge 21, 3) := by decide +kernel
theorem dX5_partsAsDigits_9 : decode cX5_partsAsDigits 9 = .ok (.bipush 10, 2) := by decide +kernel
theorem dX5_partsAsDigits_11 : decode cX5_partsAsDigits 11 = .ok (.iload_n 1, 1) := by decide +kernel
theorem dX5_partsAsDigits_12 : decode cX5_partsAsDigits 12 = .ok (.imul, 1) := by decide +kernel
theorem dX5_partsAsDigits_13 : decode cX5_partsAsDigits 13 = .ok (.aload_n 0, 1) := by decide +kernel
theorem dX5_partsAsDigits_14 : decode cX5_partsAsDigits 14 = .ok (.getfield 15, 3) := by decide +kernel
theorem dX5_partsAsDigits_17 : decode cX5_partsAsDigits 17 = .ok (.iload_n 2, 1) := by decide +kernel
theorem dX5_partsAsDigits_18 : decode cX5_partsAsDigits 18 = .ok (.iaload, 1) := by decide +kernel
theorem dX5_partsAsDigits_19 : decode cX5_partsAsDigits 19 = .ok (.iadd, 1) := by decide +kernel
theorem dX5_partsAsDigits_20 : decode cX5_partsAsDigits 20 = .ok (.istore_n 1, 1) := by decide +kernel
theorem dX5_partsAsDigits_21 : decode cX5_partsAsDigits 21 = .ok (.iinc 2 1, 3) := by decide +kernel
theorem dX5_partsAsDigits_24 : decode cX5_partsAsDigits 24 = .ok (.goto (-20), 3) := by decide +kernel
theorem dX5_partsAsDigits_27 : decode cX5_partsAsDigits 27 = .ok (.iload_n 1, 1) := by decide +kernel
theorem dX5_partsAsDigits_28 : decode cX5_partsAsDigits 28 = .ok (.ireturn, 1) := by decide +kernel
theorem dX5_countOwn_0 : decode cX5_countOwn 0 = .ok (.iconst 0, 1) := by decide +kernel
theorem dX5_countOwn_1 : decode cX5_countOwn 1 = .ok (.istore_n 1, 1) := by decide +kernel
theorem dX5_countOwn_2 : decode cX5_countOwn 2 = .ok (.iconst 0, 1) := by decide +kernel
theorem dX5_countOwn_3 : decode cX5_countOwn 3 = .ok (.istore_n 2, 1) := by decide +kernel
theorem dX5_countOwn_4 : decode cX5_countOwn 4 = .ok (.iload_n 2, 1) := by decide +kernel
theorem dX5_countOwn_5 : decode cX5_countOwn 5 = .ok (.iconst 4, 1) := by decide +kernel
theorem dX5_countOwn_6 : decode cX5_countOwn 6 = .ok (.if_icmp .ge 22, 3) := by decide +kernel
theorem dX5_countOwn_9 : decode cX5_countOwn 9 = .ok (.aload_n 0, 1) := by decide +kernel
theorem dX5_countOwn_10 : decode cX5_countOwn 10 = .ok (.getfield 15, 3) := by decide +kernel
theorem dX5_countOwn_13 : decode cX5_countOwn 13 = .ok (.iload_n 2, 1) := by decide +kernel
theorem dX5_countOwn_14 : decode cX5_countOwn 14 = .ok (.iaload, 1) := by decide +kernel
theorem dX5_countOwn_15 : decode cX5_countOwn 15 = .ok (.iload_n 2, 1) := by decide +kernel
theorem dX5_countOwn_16 : decode cX5_countOwn 16 = .ok (.if_icmp .ne 6, 3) := by decide +kernel
theorem dX5_countOwn_19 : decode cX5_countOwn 19 = .ok (.iinc 1 1, 3) := by decide +kernel
theorem dX5_countOwn_22 : decode cX5_countOwn 22 = .ok (.iinc 2 1, 3) := by decide +kernel
theorem dX5_countOwn_25 : decode cX5_countOwn 25 = .ok (.goto (-21), 3) := by decide +kernel
theorem dX5_countOwn_28 : decode cX5_countOwn 28 = .ok (.iload_n 1, 1) := by decide +kernel
theorem dX5_countOwn_29 : decode cX5_countOwn 29 = .ok (.ireturn, 1) := by decide +kernel
theorem dX6_init_0 : decode cX6_init 0 = .ok (.aload_n 0, 1) := by decide +kernel
theorem dX6_init_1 : decode cX6_init 1 = .ok (.invokespecial 3, 3) := by decide +kernel
theorem dX6_init_4 : decode cX6_init 4 = .ok (.aload_n 0, 1) := by decide +kernel
theorem dX6_init_5 : decode cX6_init 5 = .ok (.bipush 8, 2) := by decide +kernel
theorem dX6_init_7 : decode cX6_init 7 = .ok (.newarray .int, 2) := by decide +kernel
theorem dX6_init_9 : decode cX6_init 9 = .ok (.putfield 11, 3) := by decide +kernel
theorem dX6_init_12 : decode cX6_init 12 = .ok (.aload_n 0, 1) := by decide +kernel
theorem dX6_init_13 : decode cX6_init 13 = .ok (.bipush 8, 2) := by decide +kernel
theorem dX6_init_15 : decode cX6_init 15 = .ok (.newarray .int, 2) := by decide +kernel
theorem dX6_init_17 : decode cX6_init 17 = .ok (.putfield 15, 3) := by decide +kernel
theorem dX6_init_20 : decode cX6_init 20 = .ok (.aload_n 0, 1) := by decide +kernel
theorem dX6_init_21 : decode cX6_init 21 = .ok (.bipush 100, 2) := by decide +kernel
theorem dX6_init_23 : decode cX6_init 23 = .ok (.newarray .int, 2) := by decide +kernel
theorem dX6_init_25 : decode cX6_init 25 = .ok (.putfield 18, 3) := by decide +kernel
theorem dX6_init_28 : decode cX6_init 28 = .ok (.aload_n 0, 1) := by decide +kernel
theorem dX6_init_29 : decode cX6_init 29 = .ok (.bipush 19, 2) := by decide +kernel
theorem dX6_init_31 : decode cX6_init 31 = .ok (.newarray .int, 2) := by decide +kernel
theorem dX6_init_33 : decode cX6_init 33 = .ok (.putfield 21, 3) := by decide +kernel
theorem dX6_init_36 : decode cX6_init 36 = .ok (.return_, 1) := by decide +kernel
theorem dX6_copyFrom_0 : decode cX6_copyFrom 0 = .ok (.aload_n 0, 1) := by decide +kernel
theorem dX6_copyFrom_1 : decode cX6_copyFrom 1 = .ok (.aload_n 1, 1) := by decide +kernel
theorem dX6_copyFrom_2 : decode cX6_copyFrom 2 = .ok (.getfield 24, 3) := by decide +kernel
theorem dX6_copyFrom_5 : decode cX6_copyFrom 5 = .ok (.putfield 24, 3) := by decide +kernel
theorem dX6_copyFrom_8 : decode cX6_copyFrom 8 = .ok (.aload_n 1, 1) := by decide +kernel
theorem dX6_copyFrom_9 : decode cX6_copyFrom 9 = .ok (.getfield 11, 3) := by decide +kernel
theorem dX6_copyFrom_12 : decode cX6_copyFrom 12 = .ok (.iconst 0, 1) := by decide +kernel
theorem dX6_copyFrom_13 : decode cX6_copyFrom 13 = .ok (.aload_n 0, 1) := by decide +kernel
theorem dX6_copyFrom_14 : decode cX6_copyFrom 14 = .ok (.getfield 11, 3) := by decide +kernel
theorem dX6_copyFrom_17 : decode cX6_copyFrom 17 = .ok (.iconst 0, 1) := by decide +kernel
theorem dX6_copyFrom_18 : decode cX6_copyFrom 18 = .ok (.bipush 8, 2) := by decide +kernel
theorem dX6_copyFrom_20 : decode cX6_copyFrom 20 = .ok (.invokestatic 28, 3) := by decide +kernel
theorem dX6_copyFrom_23 : decode cX6_copyFrom 23 = .ok (.aload_n 1, 1) := by decide +kernel
theorem dX6_copyFrom_24 : decode cX6_copyFrom 24 = .ok (.getfield 15, 3) := by decide +kernel
theorem dX6_copyFrom_27 : decode cX6_copyFrom 27 = .ok (.iconst 0, 1) := by decide +kernel
theorem dX6_copyFrom_28 : decode cX6_copyFrom 28 = .ok (.aload_n 0, 1) := by decide +kernel
theorem dX6_copyFrom_29 : decode cX6_copyFrom 29 = .ok (.getfield 15, 3) := by decide +kernel
theorem dX6_copyFrom_32 : decode cX6_copyFrom 32 = .ok (.iconst 0, 1) := by decide +kernel
theorem dX6_copyFrom_33 : decode cX6_copyFrom 33 = .ok (.bipush 8, 2) := by decide +kernel
theorem dX6_copyFrom_35 : decode cX6_copyFrom 35 = .ok (.invokestatic 28, 3) := by decide +kernel
theorem dX6_copyFrom_38 : decode cX6_copyFrom 38 = .ok (.return_, 1) := by decide +kernel
theorem dX6_add_0 : decode cX6_add 0 = .ok (.aload_n 0, 1) := by decide +kernel
theorem dX6_add_1 : decode cX6_add 1 = .ok (.getfield 24, 3) := by decide +kernel
theorem dX6_add_4 : decode cX6_add 4 = .ok (.iconst 0, 1) := by decide +kernel
theorem dX6_add_5 : decode cX6_add 5 = .ok (.bipush 7, 2) := by decide +kernel
theorem dX6_add_7 : decode cX6_add 7 = .ok (.invokestatic 34, 3) := by decide +kernel
theorem dX6_add_10 : decode cX6_add 10 = .ok (.ifCond .ne 5, 3) := by decide +kernel
theorem dX6_add_13 : decode cX6_add 13 = .ok (.iconst 0, 1) := by decide +kernel
theorem dX6_add_14 : decode cX6_add 14 = .ok (.ireturn, 1) := by decide +kernel
theorem dX6_add_15 : decode cX6_add 15 = .ok (.aload_n 0, 1) := by decide +kernel
theorem dX6_add_16 : decode cX6_add 16 = .ok (.getfield 11, 3) := by decide +kernel
theorem dX6_add_19 : decode cX6_add 19 = .ok (.aload_n 0, 1) := by decide +kernel
theorem dX6_add_20 : decode cX6_add 20 = .ok (.getfield 24, 3) := by decide +kernel
theorem dX6_add_23 : decode cX6_add 23 = .ok (.iload_n 1, 1) := by decide +kernel
theorem dX6_add_24 : decode cX6_add 24 = .ok (.iastore, 1) := by decide +kernel
theorem dX6_add_25 : decode cX6_add 25 = .ok (.aload_n 0, 1) := by decide +kernel
theorem dX6_add_26 : decode cX6_add 26 = .ok (.getfield 15, 3) := by decide +kernel
theorem dX6_add_29 : decode cX6_add 29 = .ok (.aload_n 0, 1) := by decide +kernel
theorem dX6_add_30 : decode cX6_add 30 = .ok (.getfield 24, 3) := by decide +kernel
theorem dX6_add_33 : decode cX6_add 33 = .ok (.iload_n 2, 1) := by decide +kernel
theorem dX6_add_34 : decode cX6_add 34 = .ok (.iastore, 1) := by decide +kernel
theorem dX6_add_35 : decode cX6_add 35 = .ok (.aload_n 0, 1) := by decide +kernel
theorem dX6_add_36 : decode cX6_add 36 = .ok (.dup, 1) := by decide +kernel
theorem dX6_add_37 : decode cX6_add 37 = .ok (.getfield 24, 3) := by decide +kernel
theorem dX6_add_40 : decode cX6_add 40 = .ok (.iconst 1, 1) := by decide +kernel
theorem dX6_add_41 : decode cX6_add 41 = .ok (.iadd, 1) := by decide +kernel
theorem dX6_add_42 : decode cX6_add 42 = .ok (.putfield 24, 3) := by decide +kernel
theorem dX6_add_45 : decode cX6_add 45 = .ok (.iconst 1, 1) := by decide +kernel
theorem dX6_add_46 : decode cX6_add 46 = .ok (.ireturn, 1) := by decide +kernel
theorem dX6_sumOf_0 : decode cX6_sumOf 0 = .ok (.iload_n 1, 1) := by decide +kernel
theorem dX6_sumOf_1 : decode cX6_sumOf 1 = .ok (.iload_n 0, 1) := by decide +kernel
theorem dX6_sumOf_2 : decode cX6_sumOf 2 = .ok (.bipush 10, 2) := by decide +kernel
theorem dX6_sumOf_4 : decode cX6_sumOf 4 = .ok (.idiv, 1) := by decide +kernel
theorem dX6_sumOf_5 : decode cX6_sumOf 5 = .ok (.invokestatic 38, 3) := by decide +kernel
theorem dX6_sumOf_8 : decode cX6_sumOf 8 = .ok (.iload_n 1, 1) := by decide +kernel
theorem dX6_sumOf_9 : decode cX6_sumOf 9 = .ok (.iload_n 0, 1) := by decide +kernel
theorem dX6_sumOf_10 : decode cX6_sumOf 10 = .ok (.bipush 10, 2) := by decide +kernel
theorem dX6_sumOf_12 : decode cX6_sumOf 12 = .ok (.irem, 1) := by decide +kernel
theorem dX6_sumOf_13 : decode cX6_sumOf 13 = .ok (.invokestatic 38, 3) := by decide +kernel
theorem dX6_sumOf_16 : decode cX6_sumOf 16 = .ok (.iadd, 1) := by decide +kernel
theorem dX6_sumOf_17 : decode cX6_sumOf 17 = .ok (.ireturn, 1) := by decide +kernel
theorem dX6_fitsAll_0 : decode cX6_fitsAll 0 = .ok (.iconst 0, 1) := by decide +kernel
theorem dX6_fitsAll_1 : decode cX6_fitsAll 1 = .ok (.istore_n 2, 1) := by decide +kernel
theorem dX6_fitsAll_2 : decode cX6_fitsAll 2 = .ok (.iload_n 2, 1) := by decide +kernel
theorem dX6_fitsAll_3 : decode cX6_fitsAll 3 = .ok (.aload_n 0, 1) := by decide +kernel
theorem dX6_fitsAll_4 : decode cX6_fitsAll 4 = .ok (.getfield 24, 3) := by decide +kernel
theorem dX6_fitsAll_7 : decode cX6_fitsAll 7 = .ok (.if_icmp .ge 36, 3) := by decide +kernel
theorem dX6_fitsAll_10 : decode cX6_fitsAll 10 = .ok (.iload_n 2, 1) := by decide +kernel
theorem dX6_fitsAll_11 : decode cX6_fitsAll 11 = .ok (.bipush 8, 2) := by decide +kernel
theorem dX6_fitsAll_13 : decode cX6_fitsAll 13 = .ok (.if_icmp .ge 30, 3) := by decide +kernel
theorem dX6_fitsAll_16 : decode cX6_fitsAll 16 = .ok (.iload_n 1, 1) := by decide +kernel
theorem dX6_fitsAll_17 : decode cX6_fitsAll 17 = .ok (.aload_n 0, 1) := by decide +kernel
theorem dX6_fitsAll_18 : decode cX6_fitsAll 18 = .ok (.getfield 11, 3) := by decide +kernel
theorem dX6_fitsAll_21 : decode cX6_fitsAll 21 = .ok (.iload_n 2, 1) := by decide +kernel
theorem dX6_fitsAll_22 : decode cX6_fitsAll 22 = .ok (.iaload, 1) := by decide +kernel
theorem dX6_fitsAll_23 : decode cX6_fitsAll 23 = .ok (.invokestatic 44, 3) := by decide +kernel
theorem dX6_fitsAll_26 : decode cX6_fitsAll 26 = .ok (.aload_n 0, 1) := by decide +kernel
theorem dX6_fitsAll_27 : decode cX6_fitsAll 27 = .ok (.getfield 15, 3) := by decide +kernel
theorem dX6_fitsAll_30 : decode cX6_fitsAll 30 = .ok (.iload_n 2, 1) := by decide +kernel
theorem dX6_fitsAll_31 : decode cX6_fitsAll 31 = .ok (.iaload, 1) := by decide +kernel
theorem dX6_fitsAll_32 : decode cX6_fitsAll 32 = .ok (.if_icmp .eq 5, 3) := by decide +kernel
theorem dX6_fitsAll_35 : decode cX6_fitsAll 35 = .ok (.iconst 0, 1) := by decide +kernel
theorem dX6_fitsAll_36 : decode cX6_fitsAll 36 = .ok (.ireturn, 1) := by decide +kernel
theorem dX6_fitsAll_37 : decode cX6_fitsAll 37 = .ok (.iinc 2 1, 3) := by decide +kernel
theorem dX6_fitsAll_40 : decode cX6_fitsAll 40 = .ok (.goto (-38), 3) := by decide +kernel
theorem dX6_fitsAll_43 : decode cX6_fitsAll 43 = .ok (.iconst 1, 1) := by decide +kernel
theorem dX6_fitsAll_44 : decode cX6_fitsAll 44 = .ok (.ireturn, 1) := by decide +kernel
theorem dX6_findRows_0 : decode cX6_findRows 0 = .ok (.aload_n 0, 1) := by decide +kernel
theorem dX6_findRows_1 : decode cX6_findRows 1 = .ok (.iconst 0, 1) := by decide +kernel
theorem dX6_findRows_2 : decode cX6_findRows 2 = .ok (.putfield 47, 3) := by decide +kernel
theorem dX6_findRows_5 : decode cX6_findRows 5 = .ok (.iconst 0, 1) := by decide +kernel
theorem dX6_findRows_6 : decode cX6_findRows 6 = .ok (.istore_n 1, 1) := by decide +kernel
theorem dX6_findRows_7 : decode cX6_findRows 7 = .ok (.iload_n 1, 1) := by decide +kernel
theorem dX6_findRows_8 : decode cX6_findRows 8 = .ok (.bipush 100, 2) := by decide +kernel
theorem dX6_findRows_10 : decode cX6_findRows 10 = .ok (.if_icmp .ge 46, 3) := by decide +kernel
theorem dX6_findRows_13 : decode cX6_findRows 13 = .ok (.aload_n 0, 1) := by decide +kernel
theorem dX6_findRows_14 : decode cX6_findRows 14 = .ok (.iload_n 1, 1) := by decide +kernel
theorem dX6_findRows_15 : decode cX6_findRows 15 = .ok (.invokevirtual 50, 3) := by decide +kernel
theorem dX6_findRows_18 : decode cX6_findRows 18 = .ok (.ifCond .eq 32, 3) := by decide +kernel
theorem dX6_findRows_21 : decode cX6_findRows 21 = .ok (.aload_n 0, 1) := by decide +kernel
theorem dX6_findRows_22 : decode cX6_findRows 22 = .ok (.getfield 47, 3) := by decide +kernel
theorem dX6_findRows_25 : decode cX6_findRows 25 = .ok (.bipush 100, 2) := by decide +kernel
theorem dX6_findRows_27 : decode cX6_findRows 27 = .ok (.if_icmp .ge 23, 3) := by decide +kernel
theorem dX6_findRows_30 : decode cX6_findRows 30 = .ok (.aload_n 0, 1) := by decide +kernel
theorem dX6_findRows_31 : decode cX6_findRows 31 = .ok (.getfield 18, 3) := by decide +kernel
theorem dX6_findRows_34 : decode cX6_findRows 34 = .ok (.aload_n 0, 1) := by decide +kernel
theorem dX6_findRows_35 : decode cX6_findRows 35 = .ok (.getfield 47, 3) := by decide +kernel
theorem dX6_findRows_38 : decode cX6_findRows 38 = .ok (.iload_n 1, 1) := by decide +kernel
theorem dX6_findRows_39 : decode cX6_findRows 39 = .ok (.iastore, 1) := by decide +kernel
theorem dX6_findRows_40 : decode cX6_findRows 40 = .ok (.aload_n 0, 1) := by decide +kernel
theorem dX6_findRows_41 : decode cX6_findRows 41 = .ok (.dup, 1) := by decide +kernel
theorem dX6_findRows_42 : decode cX6_findRows 42 = .ok (.getfield 47, 3) := by decide +kernel
theorem dX6_findRows_45 : decode cX6_findRows 45 = .ok (.iconst 1, 1) := by decide +kernel
theorem dX6_findRows_46 : decode cX6_findRows 46 = .ok (.iadd, 1) := by decide +kernel
theorem dX6_findRows_47 : decode cX6_findRows 47 = .ok (.putfield 47, 3) := by decide +kernel
theorem dX6_findRows_50 : decode cX6_findRows 50 = .ok (.iinc 1 1, 3) := by decide +kernel
theorem dX6_findRows_53 : decode cX6_findRows 53 = .ok (.goto (-46), 3) := by decide +kernel
theorem dX6_findRows_56 : decode cX6_findRows 56 = .ok (.return_, 1) := by decide +kernel
theorem dX6_rowAt_0 : decode cX6_rowAt 0 = .ok (.iload_n 1, 1) := by decide +kernel
theorem dX6_rowAt_1 : decode cX6_rowAt 1 = .ok (.ifCond .lt 26, 3) := by decide +kernel
theorem dX6_rowAt_4 : decode cX6_rowAt 4 = .ok (.iload_n 1, 1) := by decide +kernel
theorem dX6_rowAt_5 : decode cX6_rowAt 5 = .ok (.aload_n 0, 1) := by decide +kernel
theorem dX6_rowAt_6 : decode cX6_rowAt 6 = .ok (.getfield 47, 3) := by decide +kernel
theorem dX6_rowAt_9 : decode cX6_rowAt 9 = .ok (.if_icmp .ge 18, 3) := by decide +kernel
theorem dX6_rowAt_12 : decode cX6_rowAt 12 = .ok (.iload_n 1, 1) := by decide +kernel
theorem dX6_rowAt_13 : decode cX6_rowAt 13 = .ok (.bipush 100, 2) := by decide +kernel
theorem dX6_rowAt_15 : decode cX6_rowAt 15 = .ok (.if_icmp .ge 12, 3) := by decide +kernel
theorem dX6_rowAt_18 : decode cX6_rowAt 18 = .ok (.aload_n 0, 1) := by decide +kernel
theorem dX6_rowAt_19 : decode cX6_rowAt 19 = .ok (.getfield 18, 3) := by decide +kernel
theorem dX6_rowAt_22 : decode cX6_rowAt 22 = .ok (.iload_n 1, 1) := by decide +kernel
theorem dX6_rowAt_23 : decode cX6_rowAt 23 = .ok (.iaload, 1) := by decide +kernel
theorem dX6_rowAt_24 : decode cX6_rowAt 24 = .ok (.goto 5, 3) := by decide +kernel
theorem dX6_rowAt_27 : decode cX6_rowAt 27 = .ok (.bipush (-6), 2) := by decide +kernel
theorem dX6_rowAt_29 : decode cX6_rowAt 29 = .ok (.ireturn, 1) := by decide +kernel
theorem dX6_mostLeft_0 : decode cX6_mostLeft 0 = .ok (.iconst 0, 1) := by decide +kernel
theorem dX6_mostLeft_1 : decode cX6_mostLeft 1 = .ok (.istore_n 2, 1) := by decide +kernel
theorem dX6_mostLeft_2 : decode cX6_mostLeft 2 = .ok (.iload_n 2, 1) := by decide +kernel
theorem dX6_mostLeft_3 : decode cX6_mostLeft 3 = .ok (.bipush 19, 2) := by decide +kernel
theorem dX6_mostLeft_5 : decode cX6_mostLeft 5 = .ok (.if_icmp .ge 16, 3) := by decide +kernel
theorem dX6_mostLeft_8 : decode cX6_mostLeft 8 = .ok (.aload_n 0, 1) := by decide +kernel
theorem dX6_mostLeft_9 : decode cX6_mostLeft 9 = .ok (.getfield 21, 3) := by decide +kernel
theorem dX6_mostLeft_12 : decode cX6_mostLeft 12 = .ok (.iload_n 2, 1) := by decide +kernel
theorem dX6_mostLeft_13 : decode cX6_mostLeft 13 = .ok (.iconst 0, 1) := by decide +kernel
theorem dX6_mostLeft_14 : decode cX6_mostLeft 14 = .ok (.iastore, 1) := by decide +kernel
theorem dX6_mostLeft_15 : decode cX6_mostLeft 15 = .ok (.iinc 2 1, 3) := by decide +kernel
theorem dX6_mostLeft_18 : decode cX6_mostLeft 18 = .ok (.goto (-16), 3) := by decide +kernel
theorem dX6_mostLeft_21 : decode cX6_mostLeft 21 = .ok (.iconst 0, 1) := by decide +kernel
theorem dX6_mostLeft_22 : decode cX6_mostLeft 22 = .ok (.istore_n 2, 1) := by decide +kernel
theorem dX6_mostLeft_23 : decode cX6_mostLeft 23 = .ok (.iconst 0, 1) := by decide +kernel
theorem dX6_mostLeft_24 : decode cX6_mostLeft 24 = .ok (.istore_n 3, 1) := by decide +kernel
theorem dX6_mostLeft_25 : decode cX6_mostLeft 25 = .ok (.iload_n 3, 1) := by decide +kernel
theorem dX6_mostLeft_26 : decode cX6_mostLeft 26 = .ok (.aload_n 0, 1) := by decide +kernel
theorem dX6_mostLeft_27 : decode cX6_mostLeft 27 = .ok (.getfield 47, 3) := by decide +kernel
theorem dX6_mostLeft_30 : decode cX6_mostLeft 30 = .ok (.if_icmp .ge 54, 3) := by decide +kernel
theorem dX6_mostLeft_33 : decode cX6_mostLeft 33 = .ok (.aload_n 0, 1) := by decide +kernel
theorem dX6_mostLeft_34 : decode cX6_mostLeft 34 = .ok (.iload_n 3, 1) := by decide +kernel
theorem dX6_mostLeft_35 : decode cX6_mostLeft 35 = .ok (.invokevirtual 54, 3) := by decide +kernel
theorem dX6_mostLeft_38 : decode cX6_mostLeft 38 = .ok (.iload_n 1, 1) := by decide +kernel
theorem dX6_mostLeft_39 : decode cX6_mostLeft 39 = .ok (.invokestatic 44, 3) := by decide +kernel
theorem dX6_mostLeft_42 : decode cX6_mostLeft 42 = .ok (.istore 4, 2) := by decide +kernel
theorem dX6_mostLeft_44 : decode cX6_mostLeft 44 = .ok (.iload 4, 2) := by decide +kernel
theorem dX6_mostLeft_46 : decode cX6_mostLeft 46 = .ok (.iconst 0, 1) := by decide +kernel
theorem dX6_mostLeft_47 : decode cX6_mostLeft 47 = .ok (.bipush 18, 2) := by decide +kernel
theorem dX6_mostLeft_49 : decode cX6_mostLeft 49 = .ok (.invokestatic 34, 3) := by decide +kernel
theorem dX6_mostLeft_52 : decode cX6_mostLeft 52 = .ok (.ifCond .eq 26, 3) := by decide +kernel
theorem dX6_mostLeft_55 : decode cX6_mostLeft 55 = .ok (.aload_n 0, 1) := by decide +kernel
theorem dX6_mostLeft_56 : decode cX6_mostLeft 56 = .ok (.getfield 21, 3) := by decide +kernel
theorem dX6_mostLeft_59 : decode cX6_mostLeft 59 = .ok (.iload 4, 2) := by decide +kernel
theorem dX6_mostLeft_61 : decode cX6_mostLeft 61 = .ok (.dup2, 1) := by decide +kernel
theorem dX6_mostLeft_62 : decode cX6_mostLeft 62 = .ok (.iaload, 1) := by decide +kernel
theorem dX6_mostLeft_63 : decode cX6_mostLeft 63 = .ok (.iconst 1, 1) := by decide +kernel
theorem dX6_mostLeft_64 : decode cX6_mostLeft 64 = .ok (.iadd, 1) := by decide +kernel
theorem dX6_mostLeft_65 : decode cX6_mostLeft 65 = .ok (.iastore, 1) := by decide +kernel
theorem dX6_mostLeft_66 : decode cX6_mostLeft 66 = .ok (.iload_n 2, 1) := by decide +kernel
theorem dX6_mostLeft_67 : decode cX6_mostLeft 67 = .ok (.aload_n 0, 1) := by decide +kernel
theorem dX6_mostLeft_68 : decode cX6_mostLeft 68 = .ok (.getfield 21, 3) := by decide +kernel
theorem dX6_mostLeft_71 : decode cX6_mostLeft 71 = .ok (.iload 4, 2) := by decide +kernel
theorem dX6_mostLeft_73 : decode cX6_mostLeft 73 = .ok (.iaload, 1) := by decide +kernel
theorem dX6_mostLeft_74 : decode cX6_mostLeft 74 = .ok (.invokestatic 58, 3) := by decide +kernel
theorem dX6_mostLeft_77 : decode cX6_mostLeft 77 = .ok (.istore_n 2, 1) := by decide +kernel
theorem dX6_mostLeft_78 : decode cX6_mostLeft 78 = .ok (.iinc 3 1, 3) := by decide +kernel
theorem dX6_mostLeft_81 : decode cX6_mostLeft 81 = .ok (.goto (-56), 3) := by decide +kernel
theorem dX6_mostLeft_84 : decode cX6_mostLeft 84 = .ok (.iload_n 2, 1) := by decide +kernel
theorem dX6_mostLeft_85 : decode cX6_mostLeft 85 = .ok (.ireturn, 1) := by decide +kernel
theorem dX7_init_0 : decode cX7_init 0 = .ok (.aload_n 0, 1) := by decide +kernel
theorem dX7_init_1 : decode cX7_init 1 = .ok (.invokespecial 3, 3) := by decide +kernel
theorem dX7_init_4 : decode cX7_init 4 = .ok (.aload_n 0, 1) := by decide +kernel
theorem dX7_init_5 : decode cX7_init 5 = .ok (.new 9, 3) := by decide +kernel
theorem dX7_init_8 : decode cX7_init 8 = .ok (.dup, 1) := by decide +kernel
theorem dX7_init_9 : decode cX7_init 9 = .ok (.invokespecial 11, 3) := by decide +kernel
theorem dX7_init_12 : decode cX7_init 12 = .ok (.putfield 12, 3) := by decide +kernel
theorem dX7_init_15 : decode cX7_init 15 = .ok (.return_, 1) := by decide +kernel
theorem dX7_start_0 : decode cX7_start 0 = .ok (.aload_n 0, 1) := by decide +kernel
theorem dX7_start_1 : decode cX7_start 1 = .ok (.getfield 12, 3) := by decide +kernel
theorem dX7_start_4 : decode cX7_start 4 = .ok (.aload_n 1, 1) := by decide +kernel
theorem dX7_start_5 : decode cX7_start 5 = .ok (.invokevirtual 18, 3) := by decide +kernel
theorem dX7_start_8 : decode cX7_start 8 = .ok (.aload_n 0, 1) := by decide +kernel
theorem dX7_start_9 : decode cX7_start 9 = .ok (.iconst 0, 1) := by decide +kernel
theorem dX7_start_10 : decode cX7_start 10 = .ok (.putfield 22, 3) := by decide +kernel
theorem dX7_start_13 : decode cX7_start 13 = .ok (.aload_n 0, 1) := by decide +kernel
theorem dX7_start_14 : decode cX7_start 14 = .ok (.bipush (-6), 2) := by decide +kernel
theorem dX7_start_16 : decode cX7_start 16 = .ok (.putfield 26, 3) := by decide +kernel
theorem dX7_start_19 : decode cX7_start 19 = .ok (.aload_n 0, 1) := by decide +kernel
theorem dX7_start_20 : decode cX7_start 20 = .ok (.bipush (-6), 2) := by decide +kernel
theorem dX7_start_22 : decode cX7_start 22 = .ok (.putfield 29, 3) := by decide +kernel
theorem dX7_start_25 : decode cX7_start 25 = .ok (.aload_n 0, 1) := by decide +kernel
theorem dX7_start_26 : decode cX7_start 26 = .ok (.iconst 0, 1) := by decide +kernel
theorem dX7_start_27 : decode cX7_start 27 = .ok (.putfield 32, 3) := by decide +kernel
theorem dX7_start_30 : decode cX7_start 30 = .ok (.aload_n 0, 1) := by decide +kernel
theorem dX7_start_31 : decode cX7_start 31 = .ok (.bipush (-6), 2) := by decide +kernel
theorem dX7_start_33 : decode cX7_start 33 = .ok (.putfield 35, 3) := by decide +kernel
theorem dX7_start_36 : decode cX7_start 36 = .ok (.aload_n 0, 1) := by decide +kernel
theorem dX7_start_37 : decode cX7_start 37 = .ok (.bipush (-6), 2) := by decide +kernel
theorem dX7_start_39 : decode cX7_start 39 = .ok (.putfield 38, 3) := by decide +kernel
theorem dX7_start_42 : decode cX7_start 42 = .ok (.return_, 1) := by decide +kernel
theorem dX7_play_0 : decode cX7_play 0 = .ok (.aload_n 0, 1) := by decide +kernel
theorem dX7_play_1 : decode cX7_play 1 = .ok (.aload_n 2, 1) := by decide +kernel
theorem dX7_play_2 : decode cX7_play 2 = .ok (.invokevirtual 41, 3) := by decide +kernel
theorem dX7_play_5 : decode cX7_play 5 = .ok (.aload_n 1, 1) := by decide +kernel
theorem dX7_play_6 : decode cX7_play 6 = .ok (.invokevirtual 44, 3) := by decide +kernel
theorem dX7_play_9 : decode cX7_play 9 = .ok (.bipush (-6), 2) := by decide +kernel
theorem dX7_play_11 : decode cX7_play 11 = .ok (.if_icmp .eq 6, 3) := by decide +kernel
theorem dX7_play_14 : decode cX7_play 14 = .ok (.bipush (-5), 2) := by decide +kernel
theorem dX7_play_16 : decode cX7_play 16 = .ok (.ireturn, 1) := by decide +kernel
theorem dX7_play_17 : decode cX7_play 17 = .ok (.iconst 0, 1) := by decide +kernel
theorem dX7_play_18 : decode cX7_play 18 = .ok (.istore_n 3, 1) := by decide +kernel
theorem dX7_play_19 : decode cX7_play 19 = .ok (.aload_n 0, 1) := by decide +kernel
theorem dX7_play_20 : decode cX7_play 20 = .ok (.getfield 22, 3) := by decide +kernel
theorem dX7_play_23 : decode cX7_play 23 = .ok (.bipush 60, 2) := by decide +kernel
theorem dX7_play_25 : decode cX7_play 25 = .ok (.if_icmp .ge 135, 3) := by decide +kernel
theorem dX7_play_28 : decode cX7_play 28 = .ok (.iload_n 3, 1) := by decide +kernel
theorem dX7_play_29 : decode cX7_play 29 = .ok (.aload_n 1, 1) := by decide +kernel
theorem dX7_play_30 : decode cX7_play 30 = .ok (.getfield 50, 3) := by decide +kernel
theorem dX7_play_33 : decode cX7_play 33 = .ok (.if_icmp .ge 127, 3) := by decide +kernel
theorem dX7_play_36 : decode cX7_play 36 = .ok (.aload_n 0, 1) := by decide +kernel
theorem dX7_play_37 : decode cX7_play 37 = .ok (.getfield 12, 3) := by decide +kernel
theorem dX7_play_40 : decode cX7_play 40 = .ok (.invokevirtual 53, 3) := by decide +kernel
theorem dX7_play_43 : decode cX7_play 43 = .ok (.istore 4, 2) := by decide +kernel
theorem dX7_play_45 : decode cX7_play 45 = .ok (.aload_n 0, 1) := by decide +kernel
theorem dX7_play_46 : decode cX7_play 46 = .ok (.aload_n 1, 1) := by decide +kernel
theorem dX7_play_47 : decode cX7_play 47 = .ok (.iload_n 3, 1) := by decide +kernel
theorem dX7_play_48 : decode cX7_play 48 = .ok (.invokevirtual 56, 3) := by decide +kernel
theorem dX7_play_51 : decode cX7_play 51 = .ok (.aload_n 1, 1) := by decide +kernel
theorem dX7_play_52 : decode cX7_play 52 = .ok (.iload_n 3, 1) := by decide +kernel
theorem dX7_play_53 : decode cX7_play 53 = .ok (.iconst 1, 1) := by decide +kernel
theorem dX7_play_54 : decode cX7_play 54 = .ok (.iadd, 1) := by decide +kernel
theorem dX7_play_55 : decode cX7_play 55 = .ok (.invokevirtual 56, 3) := by decide +kernel
theorem dX7_play_58 : decode cX7_play 58 = .ok (.aload_n 1, 1) := by decide +kernel
theorem dX7_play_59 : decode cX7_play 59 = .ok (.iload_n 3, 1) := by decide +kernel
theorem dX7_play_60 : decode cX7_play 60 = .ok (.iconst 2, 1) := by decide +kernel
theorem dX7_play_61 : decode cX7_play 61 = .ok (.iadd, 1) := by decide +kernel
theorem dX7_play_62 : decode cX7_play 62 = .ok (.invokevirtual 56, 3) := by decide +kernel
theorem dX7_play_65 : decode cX7_play 65 = .ok (.invokevirtual 60, 3) := by decide +kernel
theorem dX7_play_68 : decode cX7_play 68 = .ok (.istore 5, 2) := by decide +kernel
theorem dX7_play_70 : decode cX7_play 70 = .ok (.iload 5, 2) := by decide +kernel
theorem dX7_play_72 : decode cX7_play 72 = .ok (.ifCond .eq 20, 3) := by decide +kernel
theorem dX7_play_75 : decode cX7_play 75 = .ok (.aload_n 0, 1) := by decide +kernel
theorem dX7_play_76 : decode cX7_play 76 = .ok (.aload_n 0, 1) := by decide +kernel
theorem dX7_play_77 : decode cX7_play 77 = .ok (.getfield 22, 3) := by decide +kernel
theorem dX7_play_80 : decode cX7_play 80 = .ok (.putfield 26, 3) := by decide +kernel
theorem dX7_play_83 : decode cX7_play 83 = .ok (.aload_n 0, 1) := by decide +kernel
theorem dX7_play_84 : decode cX7_play 84 = .ok (.iload 5, 2) := by decide +kernel
theorem dX7_play_86 : decode cX7_play 86 = .ok (.putfield 29, 3) := by decide +kernel
theorem dX7_play_89 : decode cX7_play 89 = .ok (.bipush (-3), 2) := by decide +kernel
theorem dX7_play_91 : decode cX7_play 91 = .ok (.ireturn, 1) := by decide +kernel
theorem dX7_play_92 : decode cX7_play 92 = .ok (.aload_n 0, 1) := by decide +kernel
theorem dX7_play_93 : decode cX7_play 93 = .ok (.aload_n 0, 1) := by decide +kernel
theorem dX7_play_94 : decode cX7_play 94 = .ok (.getfield 12, 3) := by decide +kernel
theorem dX7_play_97 : decode cX7_play 97 = .ok (.invokevirtual 53, 3) := by decide +kernel
theorem dX7_play_100 : decode cX7_play 100 = .ok (.iload 4, 2) := by decide +kernel
theorem dX7_play_102 : decode cX7_play 102 = .ok (.iconst (-1), 1) := by decide +kernel
theorem dX7_play_103 : decode cX7_play 103 = .ok (.ixor, 1) := by decide +kernel
theorem dX7_play_104 : decode cX7_play 104 = .ok (.iand, 1) := by decide +kernel
theorem dX7_play_105 : decode cX7_play 105 = .ok (.invokevirtual 64, 3) := by decide +kernel
theorem dX7_play_108 : decode cX7_play 108 = .ok (.aload_n 1, 1) := by decide +kernel
theorem dX7_play_109 : decode cX7_play 109 = .ok (.iload_n 3, 1) := by decide +kernel
theorem dX7_play_110 : decode cX7_play 110 = .ok (.invokevirtual 56, 3) := by decide +kernel
theorem dX7_play_113 : decode cX7_play 113 = .ok (.invokestatic 68, 3) := by decide +kernel
theorem dX7_play_116 : decode cX7_play 116 = .ok (.ifCond .eq 13, 3) := by decide +kernel
theorem dX7_play_119 : decode cX7_play 119 = .ok (.aload_n 0, 1) := by decide +kernel
theorem dX7_play_120 : decode cX7_play 120 = .ok (.dup, 1) := by decide +kernel
theorem dX7_play_121 : decode cX7_play 121 = .ok (.getfield 32, 3) := by decide +kernel
theorem dX7_play_124 : decode cX7_play 124 = .ok (.iconst 1, 1) := by decide +kernel
theorem dX7_play_125 : decode cX7_play 125 = .ok (.iadd, 1) := by decide +kernel
theorem dX7_play_126 : decode cX7_play 126 = .ok (.putfield 32, 3) := by decide +kernel
theorem dX7_play_129 : decode cX7_play 129 = .ok (.aload_n 0, 1) := by decide +kernel
theorem dX7_play_130 : decode cX7_play 130 = .ok (.dup, 1) := by decide +kernel
theorem dX7_play_131 : decode cX7_play 131 = .ok (.getfield 22, 3) := by decide +kernel
theorem dX7_play_134 : decode cX7_play 134 = .ok (.iconst 1, 1) := by decide +kernel
theorem dX7_play_135 : decode cX7_play 135 = .ok (.iadd, 1) := by decide +kernel
theorem dX7_play_136 : decode cX7_play 136 = .ok (.putfield 22, 3) := by decide +kernel
theorem dX7_play_139 : decode cX7_play 139 = .ok (.iload_n 3, 1) := by decide +kernel
theorem dX7_play_140 : decode cX7_play 140 = .ok (.aload_n 1, 1) := by decide +kernel
theorem dX7_play_141 : decode cX7_play 141 = .ok (.iload_n 3, 1) := by decide +kernel
theorem dX7_play_142 : decode cX7_play 142 = .ok (.invokevirtual 56, 3) := by decide +kernel
theorem dX7_play_145 : decode cX7_play 145 = .ok (.aload_n 1, 1) := by decide +kernel
theorem dX7_play_146 : decode cX7_play 146 = .ok (.iload_n 3, 1) := by decide +kernel
theorem dX7_play_147 : decode cX7_play 147 = .ok (.iconst 1, 1) := by decide +kernel
theorem dX7_play_148 : decode cX7_play 148 = .ok (.iadd, 1) := by decide +kernel
theorem dX7_play_149 : decode cX7_play 149 = .ok (.invokevirtual 56, 3) := by decide +kernel
theorem dX7_play_152 : decode cX7_play 152 = .ok (.invokestatic 72, 3) := by decide +kernel
theorem dX7_play_155 : decode cX7_play 155 = .ok (.iadd, 1) := by decide +kernel
theorem dX7_play_156 : decode cX7_play 156 = .ok (.istore_n 3, 1) := by decide +kernel
theorem dX7_play_157 : decode cX7_play 157 = .ok (.goto (-138), 3) := by decide +kernel
theorem dX7_play_160 : decode cX7_play 160 = .ok (.iconst 0, 1) := by decide +kernel
theorem dX7_play_161 : decode cX7_play 161 = .ok (.ireturn, 1) := by decide +kernel
theorem dX7_noteFreed_0 : decode cX7_noteFreed 0 = .ok (.iconst 0, 1) := by decide +kernel
theorem dX7_noteFreed_1 : decode cX7_noteFreed 1 = .ok (.istore_n 2, 1) := by decide +kernel
theorem dX7_noteFreed_2 : decode cX7_noteFreed 2 = .ok (.iload_n 2, 1) := by decide +kernel
theorem dX7_noteFreed_3 : decode cX7_noteFreed 3 = .ok (.bipush 8, 2) := by decide +kernel
theorem dX7_noteFreed_5 : decode cX7_noteFreed 5 = .ok (.if_icmp .ge 40, 3) := by decide +kernel
theorem dX7_noteFreed_8 : decode cX7_noteFreed 8 = .ok (.aload_n 0, 1) := by decide +kernel
theorem dX7_noteFreed_9 : decode cX7_noteFreed 9 = .ok (.getfield 35, 3) := by decide +kernel
theorem dX7_noteFreed_12 : decode cX7_noteFreed 12 = .ok (.bipush (-6), 2) := by decide +kernel
theorem dX7_noteFreed_14 : decode cX7_noteFreed 14 = .ok (.if_icmp .ne 31, 3) := by decide +kernel
theorem dX7_noteFreed_17 : decode cX7_noteFreed 17 = .ok (.iload_n 1, 1) := by decide +kernel
theorem dX7_noteFreed_18 : decode cX7_noteFreed 18 = .ok (.iload_n 2, 1) := by decide +kernel
theorem dX7_noteFreed_19 : decode cX7_noteFreed 19 = .ok (.invokestatic 76, 3) := by decide +kernel
theorem dX7_noteFreed_22 : decode cX7_noteFreed 22 = .ok (.iconst 1, 1) := by decide +kernel
theorem dX7_noteFreed_23 : decode cX7_noteFreed 23 = .ok (.if_icmp .ne 16, 3) := by decide +kernel
theorem dX7_noteFreed_26 : decode cX7_noteFreed 26 = .ok (.aload_n 0, 1) := by decide +kernel
theorem dX7_noteFreed_27 : decode cX7_noteFreed 27 = .ok (.aload_n 0, 1) := by decide +kernel
theorem dX7_noteFreed_28 : decode cX7_noteFreed 28 = .ok (.getfield 22, 3) := by decide +kernel
theorem dX7_noteFreed_31 : decode cX7_noteFreed 31 = .ok (.putfield 35, 3) := by decide +kernel
theorem dX7_noteFreed_34 : decode cX7_noteFreed 34 = .ok (.aload_n 0, 1) := by decide +kernel
theorem dX7_noteFreed_35 : decode cX7_noteFreed 35 = .ok (.iload_n 2, 1) := by decide +kernel
theorem dX7_noteFreed_36 : decode cX7_noteFreed 36 = .ok (.putfield 38, 3) := by decide +kernel
theorem dX7_noteFreed_39 : decode cX7_noteFreed 39 = .ok (.iinc 2 1, 3) := by decide +kernel
theorem dX7_noteFreed_42 : decode cX7_noteFreed 42 = .ok (.goto (-40), 3) := by decide +kernel
theorem dX7_noteFreed_45 : decode cX7_noteFreed 45 = .ok (.return_, 1) := by decide +kernel
theorem dX7_act_0 : decode cX7_act 0 = .ok (.iload_n 1, 1) := by decide +kernel
theorem dX7_act_1 : decode cX7_act 1 = .ok (.bipush 46, 2) := by decide +kernel
theorem dX7_act_3 : decode cX7_act 3 = .ok (.if_icmp .ne 11, 3) := by decide +kernel
theorem dX7_act_6 : decode cX7_act 6 = .ok (.aload_n 0, 1) := by decide +kernel
theorem dX7_act_7 : decode cX7_act 7 = .ok (.getfield 12, 3) := by decide +kernel
theorem dX7_act_10 : decode cX7_act 10 = .ok (.invokevirtual 79, 3) := by decide +kernel
theorem dX7_act_13 : decode cX7_act 13 = .ok (.ireturn, 1) := by decide +kernel
theorem dX7_act_14 : decode cX7_act 14 = .ok (.iload_n 1, 1) := by decide +kernel
theorem dX7_act_15 : decode cX7_act 15 = .ok (.invokestatic 68, 3) := by decide +kernel
theorem dX7_act_18 : decode cX7_act 18 = .ok (.ifCond .eq 15, 3) := by decide +kernel
theorem dX7_act_21 : decode cX7_act 21 = .ok (.aload_n 0, 1) := by decide +kernel
theorem dX7_act_22 : decode cX7_act 22 = .ok (.getfield 12, 3) := by decide +kernel
theorem dX7_act_25 : decode cX7_act 25 = .ok (.iload_n 1, 1) := by decide +kernel
theorem dX7_act_26 : decode cX7_act 26 = .ok (.bipush 48, 2) := by decide +kernel
theorem dX7_act_28 : decode cX7_act 28 = .ok (.isub, 1) := by decide +kernel
theorem dX7_act_29 : decode cX7_act 29 = .ok (.invokevirtual 82, 3) := by decide +kernel
theorem dX7_act_32 : decode cX7_act 32 = .ok (.ireturn, 1) := by decide +kernel
theorem dX7_act_33 : decode cX7_act 33 = .ok (.iload_n 1, 1) := by decide +kernel
theorem dX7_act_34 : decode cX7_act 34 = .ok (.bipush 65, 2) := by decide +kernel
theorem dX7_act_36 : decode cX7_act 36 = .ok (.isub, 1) := by decide +kernel
theorem dX7_act_37 : decode cX7_act 37 = .ok (.istore 4, 2) := by decide +kernel
theorem dX7_act_39 : decode cX7_act 39 = .ok (.iload_n 2, 1) := by decide +kernel
theorem dX7_act_40 : decode cX7_act 40 = .ok (.lookupswitch 77 #[(42, 53), (43, 36), (61, 63)], 36) := by decide +kernel
theorem dX7_act_76 : decode cX7_act 76 = .ok (.aload_n 0, 1) := by decide +kernel
theorem dX7_act_77 : decode cX7_act 77 = .ok (.getfield 12, 3) := by decide +kernel
theorem dX7_act_80 : decode cX7_act 80 = .ok (.iload 4, 2) := by decide +kernel
theorem dX7_act_82 : decode cX7_act 82 = .ok (.bipush 10, 2) := by decide +kernel
theorem dX7_act_84 : decode cX7_act 84 = .ok (.iload_n 3, 1) := by decide +kernel
theorem dX7_act_85 : decode cX7_act 85 = .ok (.bipush 48, 2) := by decide +kernel
theorem dX7_act_87 : decode cX7_act 87 = .ok (.isub, 1) := by decide +kernel
theorem dX7_act_88 : decode cX7_act 88 = .ok (.imul, 1) := by decide +kernel
theorem dX7_act_89 : decode cX7_act 89 = .ok (.invokevirtual 85, 3) := by decide +kernel
theorem dX7_act_92 : decode cX7_act 92 = .ok (.ireturn, 1) := by decide +kernel
theorem dX7_act_93 : decode cX7_act 93 = .ok (.aload_n 0, 1) := by decide +kernel
theorem dX7_act_94 : decode cX7_act 94 = .ok (.getfield 12, 3) := by decide +kernel
theorem dX7_act_97 : decode cX7_act 97 = .ok (.iload 4, 2) := by decide +kernel
theorem dX7_act_99 : decode cX7_act 99 = .ok (.invokevirtual 88, 3) := by decide +kernel
theorem dX7_act_102 : decode cX7_act 102 = .ok (.ireturn, 1) := by decide +kernel
theorem dX7_act_103 : decode cX7_act 103 = .ok (.aload_n 0, 1) := by decide +kernel
theorem dX7_act_104 : decode cX7_act 104 = .ok (.getfield 12, 3) := by decide +kernel
theorem dX7_act_107 : decode cX7_act 107 = .ok (.iload 4, 2) := by decide +kernel
theorem dX7_act_109 : decode cX7_act 109 = .ok (.iload_n 3, 1) := by decide +kernel
theorem dX7_act_110 : decode cX7_act 110 = .ok (.bipush 65, 2) := by decide +kernel
theorem dX7_act_112 : decode cX7_act 112 = .ok (.isub, 1) := by decide +kernel
theorem dX7_act_113 : decode cX7_act 113 = .ok (.invokevirtual 91, 3) := by decide +kernel
theorem dX7_act_116 : decode cX7_act 116 = .ok (.ireturn, 1) := by decide +kernel
theorem dX7_act_117 : decode cX7_act 117 = .ok (.aload_n 0, 1) := by decide +kernel
theorem dX7_act_118 : decode cX7_act 118 = .ok (.getfield 12, 3) := by decide +kernel
theorem dX7_act_121 : decode cX7_act 121 = .ok (.iload 4, 2) := by decide +kernel
theorem dX7_act_123 : decode cX7_act 123 = .ok (.invokevirtual 94, 3) := by decide +kernel
theorem dX7_act_126 : decode cX7_act 126 = .ok (.ireturn, 1) := by decide +kernel
theorem dX7_draw_0 : decode cX7_draw 0 = .ok (.iload_n 1, 1) := by decide +kernel
theorem dX7_draw_1 : decode cX7_draw 1 = .ok (.bipush 8, 2) := by decide +kernel
theorem dX7_draw_3 : decode cX7_draw 3 = .ok (.idiv, 1) := by decide +kernel
theorem dX7_draw_4 : decode cX7_draw 4 = .ok (.istore_n 2, 1) := by decide +kernel
theorem dX7_draw_5 : decode cX7_draw 5 = .ok (.iload_n 1, 1) := by decide +kernel
theorem dX7_draw_6 : decode cX7_draw 6 = .ok (.bipush 64, 2) := by decide +kernel
theorem dX7_draw_8 : decode cX7_draw 8 = .ok (.idiv, 1) := by decide +kernel
theorem dX7_draw_9 : decode cX7_draw 9 = .ok (.istore_n 3, 1) := by decide +kernel
theorem dX7_draw_10 : decode cX7_draw 10 = .ok (.iload_n 1, 1) := by decide +kernel
theorem dX7_draw_11 : decode cX7_draw 11 = .ok (.bipush 8, 2) := by decide +kernel
theorem dX7_draw_13 : decode cX7_draw 13 = .ok (.irem, 1) := by decide +kernel
theorem dX7_draw_14 : decode cX7_draw 14 = .ok (.tableswitch 107 0 6 #[42, 42, 42, 57, 68, 68, 92], 42) := by decide +kernel
theorem dX7_draw_56 : decode cX7_draw 56 = .ok (.aload_n 0, 1) := by decide +kernel
theorem dX7_draw_57 : decode cX7_draw 57 = .ok (.getfield 12, 3) := by decide +kernel
theorem dX7_draw_60 : decode cX7_draw 60 = .ok (.iload_n 2, 1) := by decide +kernel
theorem dX7_draw_61 : decode cX7_draw 61 = .ok (.bipush 6, 2) := by decide +kernel
theorem dX7_draw_63 : decode cX7_draw 63 = .ok (.irem, 1) := by decide +kernel
theorem dX7_draw_64 : decode cX7_draw 64 = .ok (.invokevirtual 82, 3) := by decide +kernel
theorem dX7_draw_67 : decode cX7_draw 67 = .ok (.pop, 1) := by decide +kernel
theorem dX7_draw_68 : decode cX7_draw 68 = .ok (.goto 69, 3) := by decide +kernel
theorem dX7_draw_71 : decode cX7_draw 71 = .ok (.aload_n 0, 1) := by decide +kernel
theorem dX7_draw_72 : decode cX7_draw 72 = .ok (.getfield 12, 3) := by decide +kernel
theorem dX7_draw_75 : decode cX7_draw 75 = .ok (.invokevirtual 79, 3) := by decide +kernel
theorem dX7_draw_78 : decode cX7_draw 78 = .ok (.pop, 1) := by decide +kernel
theorem dX7_draw_79 : decode cX7_draw 79 = .ok (.goto 58, 3) := by decide +kernel
theorem dX7_draw_82 : decode cX7_draw 82 = .ok (.aload_n 0, 1) := by decide +kernel
theorem dX7_draw_83 : decode cX7_draw 83 = .ok (.getfield 12, 3) := by decide +kernel
theorem dX7_draw_86 : decode cX7_draw 86 = .ok (.iload_n 2, 1) := by decide +kernel
theorem dX7_draw_87 : decode cX7_draw 87 = .ok (.bipush 8, 2) := by decide +kernel
theorem dX7_draw_89 : decode cX7_draw 89 = .ok (.irem, 1) := by decide +kernel
theorem dX7_draw_90 : decode cX7_draw 90 = .ok (.bipush 10, 2) := by decide +kernel
theorem dX7_draw_92 : decode cX7_draw 92 = .ok (.iconst 1, 1) := by decide +kernel
theorem dX7_draw_93 : decode cX7_draw 93 = .ok (.iload_n 3, 1) := by decide +kernel
theorem dX7_draw_94 : decode cX7_draw 94 = .ok (.bipush 9, 2) := by decide +kernel
theorem dX7_draw_96 : decode cX7_draw 96 = .ok (.irem, 1) := by decide +kernel
theorem dX7_draw_97 : decode cX7_draw 97 = .ok (.iadd, 1) := by decide +kernel
theorem dX7_draw_98 : decode cX7_draw 98 = .ok (.imul, 1) := by decide +kernel
theorem dX7_draw_99 : decode cX7_draw 99 = .ok (.invokevirtual 85, 3) := by decide +kernel
theorem dX7_draw_102 : decode cX7_draw 102 = .ok (.pop, 1) := by decide +kernel
theorem dX7_draw_103 : decode cX7_draw 103 = .ok (.goto 34, 3) := by decide +kernel
theorem dX7_draw_106 : decode cX7_draw 106 = .ok (.aload_n 0, 1) := by decide +kernel
theorem dX7_draw_107 : decode cX7_draw 107 = .ok (.getfield 12, 3) := by decide +kernel
theorem dX7_draw_110 : decode cX7_draw 110 = .ok (.iload_n 2, 1) := by decide +kernel
theorem dX7_draw_111 : decode cX7_draw 111 = .ok (.bipush 8, 2) := by decide +kernel
theorem dX7_draw_113 : decode cX7_draw 113 = .ok (.irem, 1) := by decide +kernel
theorem dX7_draw_114 : decode cX7_draw 114 = .ok (.invokevirtual 88, 3) := by decide +kernel
theorem dX7_draw_117 : decode cX7_draw 117 = .ok (.pop, 1) := by decide +kernel
theorem dX7_draw_118 : decode cX7_draw 118 = .ok (.goto 19, 3) := by decide +kernel
theorem dX7_draw_121 : decode cX7_draw 121 = .ok (.aload_n 0, 1) := by decide +kernel
theorem dX7_draw_122 : decode cX7_draw 122 = .ok (.getfield 12, 3) := by decide +kernel
theorem dX7_draw_125 : decode cX7_draw 125 = .ok (.iload_n 2, 1) := by decide +kernel
theorem dX7_draw_126 : decode cX7_draw 126 = .ok (.bipush 8, 2) := by decide +kernel
theorem dX7_draw_128 : decode cX7_draw 128 = .ok (.irem, 1) := by decide +kernel
theorem dX7_draw_129 : decode cX7_draw 129 = .ok (.iload_n 3, 1) := by decide +kernel
theorem dX7_draw_130 : decode cX7_draw 130 = .ok (.bipush 8, 2) := by decide +kernel
theorem dX7_draw_132 : decode cX7_draw 132 = .ok (.irem, 1) := by decide +kernel
theorem dX7_draw_133 : decode cX7_draw 133 = .ok (.invokevirtual 91, 3) := by decide +kernel
theorem dX7_draw_136 : decode cX7_draw 136 = .ok (.pop, 1) := by decide +kernel
theorem dX7_draw_137 : decode cX7_draw 137 = .ok (.return_, 1) := by decide +kernel
theorem dX8_init_0 : decode cX8_init 0 = .ok (.aload_n 0, 1) := by decide +kernel
theorem dX8_init_1 : decode cX8_init 1 = .ok (.invokespecial 1, 3) := by decide +kernel
theorem dX8_init_4 : decode cX8_init 4 = .ok (.aload_n 0, 1) := by decide +kernel
theorem dX8_init_5 : decode cX8_init 5 = .ok (.new 7, 3) := by decide +kernel
theorem dX8_init_8 : decode cX8_init 8 = .ok (.dup, 1) := by decide +kernel
theorem dX8_init_9 : decode cX8_init 9 = .ok (.invokespecial 9, 3) := by decide +kernel
theorem dX8_init_12 : decode cX8_init 12 = .ok (.putfield 10, 3) := by decide +kernel
theorem dX8_init_15 : decode cX8_init 15 = .ok (.aload_n 0, 1) := by decide +kernel
theorem dX8_init_16 : decode cX8_init 16 = .ok (.new 16, 3) := by decide +kernel
theorem dX8_init_19 : decode cX8_init 19 = .ok (.dup, 1) := by decide +kernel
theorem dX8_init_20 : decode cX8_init 20 = .ok (.invokespecial 18, 3) := by decide +kernel
theorem dX8_init_23 : decode cX8_init 23 = .ok (.putfield 19, 3) := by decide +kernel
theorem dX8_init_26 : decode cX8_init 26 = .ok (.aload_n 0, 1) := by decide +kernel
theorem dX8_init_27 : decode cX8_init 27 = .ok (.new 23, 3) := by decide +kernel
theorem dX8_init_30 : decode cX8_init 30 = .ok (.dup, 1) := by decide +kernel
theorem dX8_init_31 : decode cX8_init 31 = .ok (.invokespecial 25, 3) := by decide +kernel
theorem dX8_init_34 : decode cX8_init 34 = .ok (.putfield 26, 3) := by decide +kernel
theorem dX8_init_37 : decode cX8_init 37 = .ok (.aload_n 0, 1) := by decide +kernel
theorem dX8_init_38 : decode cX8_init 38 = .ok (.new 30, 3) := by decide +kernel
theorem dX8_init_41 : decode cX8_init 41 = .ok (.dup, 1) := by decide +kernel
theorem dX8_init_42 : decode cX8_init 42 = .ok (.invokespecial 32, 3) := by decide +kernel
theorem dX8_init_45 : decode cX8_init 45 = .ok (.putfield 33, 3) := by decide +kernel
theorem dX8_init_48 : decode cX8_init 48 = .ok (.aload_n 0, 1) := by decide +kernel
theorem dX8_init_49 : decode cX8_init 49 = .ok (.new 37, 3) := by decide +kernel
theorem dX8_init_52 : decode cX8_init 52 = .ok (.dup, 1) := by decide +kernel
theorem dX8_init_53 : decode cX8_init 53 = .ok (.invokespecial 39, 3) := by decide +kernel
theorem dX8_init_56 : decode cX8_init 56 = .ok (.putfield 40, 3) := by decide +kernel
theorem dX8_init_59 : decode cX8_init 59 = .ok (.aload_n 0, 1) := by decide +kernel
theorem dX8_init_60 : decode cX8_init 60 = .ok (.new 44, 3) := by decide +kernel
theorem dX8_init_63 : decode cX8_init 63 = .ok (.dup, 1) := by decide +kernel
theorem dX8_init_64 : decode cX8_init 64 = .ok (.invokespecial 46, 3) := by decide +kernel
theorem dX8_init_67 : decode cX8_init 67 = .ok (.putfield 47, 3) := by decide +kernel
theorem dX8_init_70 : decode cX8_init 70 = .ok (.aload_n 0, 1) := by decide +kernel
theorem dX8_init_71 : decode cX8_init 71 = .ok (.new 51, 3) := by decide +kernel
theorem dX8_init_74 : decode cX8_init 74 = .ok (.dup, 1) := by decide +kernel
theorem dX8_init_75 : decode cX8_init 75 = .ok (.invokespecial 53, 3) := by decide +kernel
theorem dX8_init_78 : decode cX8_init 78 = .ok (.putfield 54, 3) := by decide +kernel
theorem dX8_init_81 : decode cX8_init 81 = .ok (.aload_n 0, 1) := by decide +kernel
theorem dX8_init_82 : decode cX8_init 82 = .ok (.new 58, 3) := by decide +kernel
theorem dX8_init_85 : decode cX8_init 85 = .ok (.dup, 1) := by decide +kernel
theorem dX8_init_86 : decode cX8_init 86 = .ok (.invokespecial 60, 3) := by decide +kernel
theorem dX8_init_89 : decode cX8_init 89 = .ok (.putfield 61, 3) := by decide +kernel
theorem dX8_init_92 : decode cX8_init 92 = .ok (.aload_n 0, 1) := by decide +kernel
theorem dX8_init_93 : decode cX8_init 93 = .ok (.new 58, 3) := by decide +kernel
theorem dX8_init_96 : decode cX8_init 96 = .ok (.dup, 1) := by decide +kernel
theorem dX8_init_97 : decode cX8_init 97 = .ok (.invokespecial 60, 3) := by decide +kernel
theorem dX8_init_100 : decode cX8_init 100 = .ok (.putfield 65, 3) := by decide +kernel
theorem dX8_init_103 : decode cX8_init 103 = .ok (.return_, 1) := by decide +kernel
theorem dX8_singer_0 : decode cX8_singer 0 = .ok (.iload_n 1, 1) := by decide +kernel
theorem dX8_singer_1 : decode cX8_singer 1 = .ok (.iconst 0, 1) := by decide +kernel
theorem dX8_singer_2 : decode cX8_singer 2 = .ok (.bipush 7, 2) := by decide +kernel
theorem dX8_singer_4 : decode cX8_singer 4 = .ok (.invokestatic 68, 3) := by decide +kernel
theorem dX8_singer_7 : decode cX8_singer 7 = .ok (.ifCond .ne 5, 3) := by decide +kernel
theorem dX8_singer_10 : decode cX8_singer 10 = .ok (.iconst (-1), 1) := by decide +kernel
theorem dX8_singer_11 : decode cX8_singer 11 = .ok (.ireturn, 1) := by decide +kernel
theorem dX8_singer_12 : decode cX8_singer 12 = .ok (.iload_n 2, 1) := by decide +kernel
theorem dX8_singer_13 : decode cX8_singer 13 = .ok (.iconst 0, 1) := by decide +kernel
theorem dX8_singer_14 : decode cX8_singer 14 = .ok (.iconst 3, 1) := by decide +kernel
theorem dX8_singer_15 : decode cX8_singer 15 = .ok (.invokestatic 68, 3) := by decide +kernel
theorem dX8_singer_18 : decode cX8_singer 18 = .ok (.ifCond .eq 14, 3) := by decide +kernel
theorem dX8_singer_21 : decode cX8_singer 21 = .ok (.iload_n 3, 1) := by decide +kernel
theorem dX8_singer_22 : decode cX8_singer 22 = .ok (.iconst 0, 1) := by decide +kernel
theorem dX8_singer_23 : decode cX8_singer 23 = .ok (.sipush 999, 3) := by decide +kernel
theorem dX8_singer_26 : decode cX8_singer 26 = .ok (.invokestatic 68, 3) := by decide +kernel
theorem dX8_singer_29 : decode cX8_singer 29 = .ok (.ifCond .ne 6, 3) := by decide +kernel
theorem dX8_singer_32 : decode cX8_singer 32 = .ok (.bipush (-2), 2) := by decide +kernel
theorem dX8_singer_34 : decode cX8_singer 34 = .ok (.ireturn, 1) := by decide +kernel
theorem dX8_singer_35 : decode cX8_singer 35 = .ok (.aload_n 0, 1) := by decide +kernel
theorem dX8_singer_36 : decode cX8_singer 36 = .ok (.getfield 10, 3) := by decide +kernel
theorem dX8_singer_39 : decode cX8_singer 39 = .ok (.iload_n 1, 1) := by decide +kernel
theorem dX8_singer_40 : decode cX8_singer 40 = .ok (.iload_n 2, 1) := by decide +kernel
theorem dX8_singer_41 : decode cX8_singer 41 = .ok (.iload_n 3, 1) := by decide +kernel
theorem dX8_singer_42 : decode cX8_singer 42 = .ok (.invokevirtual 72, 3) := by decide +kernel
theorem dX8_singer_45 : decode cX8_singer 45 = .ok (.aload_n 0, 1) := by decide +kernel
theorem dX8_singer_46 : decode cX8_singer 46 = .ok (.getfield 10, 3) := by decide +kernel
theorem dX8_singer_49 : decode cX8_singer 49 = .ok (.getfield 76, 3) := by decide +kernel
theorem dX8_singer_52 : decode cX8_singer 52 = .ok (.invokestatic 80, 3) := by decide +kernel
theorem dX8_singer_55 : decode cX8_singer 55 = .ok (.ireturn, 1) := by decide +kernel
theorem dX8_leave_0 : decode cX8_leave 0 = .ok (.aload_n 0, 1) := by decide +kernel
theorem dX8_leave_1 : decode cX8_leave 1 = .ok (.getfield 10, 3) := by decide +kernel
theorem dX8_leave_4 : decode cX8_leave 4 = .ok (.iload_n 1, 1) := by decide +kernel
theorem dX8_leave_5 : decode cX8_leave 5 = .ok (.invokevirtual 86, 3) := by decide +kernel
theorem dX8_leave_8 : decode cX8_leave 8 = .ok (.ifCond .ne 5, 3) := by decide +kernel
theorem dX8_leave_11 : decode cX8_leave 11 = .ok (.iconst (-1), 1) := by decide +kernel
theorem dX8_leave_12 : decode cX8_leave 12 = .ok (.ireturn, 1) := by decide +kernel
theorem dX8_leave_13 : decode cX8_leave 13 = .ok (.aload_n 0, 1) := by decide +kernel
theorem dX8_leave_14 : decode cX8_leave 14 = .ok (.getfield 10, 3) := by decide +kernel
theorem dX8_leave_17 : decode cX8_leave 17 = .ok (.iload_n 1, 1) := by decide +kernel
theorem dX8_leave_18 : decode cX8_leave 18 = .ok (.invokevirtual 90, 3) := by decide +kernel
theorem dX8_leave_21 : decode cX8_leave 21 = .ok (.aload_n 0, 1) := by decide +kernel
theorem dX8_leave_22 : decode cX8_leave 22 = .ok (.getfield 10, 3) := by decide +kernel
theorem dX8_leave_25 : decode cX8_leave 25 = .ok (.getfield 76, 3) := by decide +kernel
theorem dX8_leave_28 : decode cX8_leave 28 = .ok (.invokestatic 80, 3) := by decide +kernel
theorem dX8_leave_31 : decode cX8_leave 31 = .ok (.ireturn, 1) := by decide +kernel
theorem dX8_piece_0 : decode cX8_piece 0 = .ok (.iload_n 1, 1) := by decide +kernel
theorem dX8_piece_1 : decode cX8_piece 1 = .ok (.iconst 0, 1) := by decide +kernel
theorem dX8_piece_2 : decode cX8_piece 2 = .ok (.iconst 5, 1) := by decide +kernel
theorem dX8_piece_3 : decode cX8_piece 3 = .ok (.invokestatic 68, 3) := by decide +kernel
theorem dX8_piece_6 : decode cX8_piece 6 = .ok (.ifCond .ne 5, 3) := by decide +kernel
theorem dX8_piece_9 : decode cX8_piece 9 = .ok (.iconst (-1), 1) := by decide +kernel
theorem dX8_piece_10 : decode cX8_piece 10 = .ok (.ireturn, 1) := by decide +kernel
theorem dX8_piece_11 : decode cX8_piece 11 = .ok (.iload_n 2, 1) := by decide +kernel
theorem dX8_piece_12 : decode cX8_piece 12 = .ok (.invokestatic 94, 3) := by decide +kernel
theorem dX8_piece_15 : decode cX8_piece 15 = .ok (.ifCond .eq 24, 3) := by decide +kernel
theorem dX8_piece_18 : decode cX8_piece 18 = .ok (.iload_n 3, 1) := by decide +kernel
theorem dX8_piece_19 : decode cX8_piece 19 = .ok (.iconst 0, 1) := by decide +kernel
theorem dX8_piece_20 : decode cX8_piece 20 = .ok (.bipush 60, 2) := by decide +kernel
theorem dX8_piece_22 : decode cX8_piece 22 = .ok (.invokestatic 68, 3) := by decide +kernel
theorem dX8_piece_25 : decode cX8_piece 25 = .ok (.ifCond .eq 14, 3) := by decide +kernel
theorem dX8_piece_28 : decode cX8_piece 28 = .ok (.iload 4, 2) := by decide +kernel
theorem dX8_piece_30 : decode cX8_piece 30 = .ok (.iconst 0, 1) := by decide +kernel
theorem dX8_piece_31 : decode cX8_piece 31 = .ok (.bipush 9, 2) := by decide +kernel
theorem dX8_piece_33 : decode cX8_piece 33 = .ok (.invokestatic 68, 3) := by decide +kernel
theorem dX8_piece_36 : decode cX8_piece 36 = .ok (.ifCond .ne 6, 3) := by decide +kernel
theorem dX8_piece_39 : decode cX8_piece 39 = .ok (.bipush (-2), 2) := by decide +kernel
theorem dX8_piece_41 : decode cX8_piece 41 = .ok (.ireturn, 1) := by decide +kernel
theorem dX8_piece_42 : decode cX8_piece 42 = .ok (.aload_n 0, 1) := by decide +kernel
theorem dX8_piece_43 : decode cX8_piece 43 = .ok (.getfield 10, 3) := by decide +kernel
theorem dX8_piece_46 : decode cX8_piece 46 = .ok (.iload_n 1, 1) := by decide +kernel
theorem dX8_piece_47 : decode cX8_piece 47 = .ok (.invokevirtual 97, 3) := by decide +kernel
theorem dX8_piece_50 : decode cX8_piece 50 = .ok (.istore 5, 2) := by decide +kernel
theorem dX8_piece_52 : decode cX8_piece 52 = .ok (.aload_n 0, 1) := by decide +kernel
theorem dX8_piece_53 : decode cX8_piece 53 = .ok (.getfield 10, 3) := by decide +kernel
theorem dX8_piece_56 : decode cX8_piece 56 = .ok (.iload_n 1, 1) := by decide +kernel
theorem dX8_piece_57 : decode cX8_piece 57 = .ok (.iload_n 2, 1) := by decide +kernel
theorem dX8_piece_58 : decode cX8_piece 58 = .ok (.iload_n 3, 1) := by decide +kernel
theorem dX8_piece_59 : decode cX8_piece 59 = .ok (.iload 4, 2) := by decide +kernel
theorem dX8_piece_61 : decode cX8_piece 61 = .ok (.invokevirtual 100, 3) := by decide +kernel
theorem dX8_piece_64 : decode cX8_piece 64 = .ok (.iload 5, 2) := by decide +kernel
theorem dX8_piece_66 : decode cX8_piece 66 = .ok (.ireturn, 1) := by decide +kernel
theorem dX8_say_0 : decode cX8_say 0 = .ok (.iload_n 1, 1) := by decide +kernel
theorem dX8_say_1 : decode cX8_say 1 = .ok (.bipush 33, 2) := by decide +kernel
theorem dX8_say_3 : decode cX8_say 3 = .ok (.bipush 126, 2) := by decide +kernel
theorem dX8_say_5 : decode cX8_say 5 = .ok (.invokestatic 68, 3) := by decide +kernel
theorem dX8_say_8 : decode cX8_say 8 = .ok (.ifCond .ne 6, 3) := by decide +kernel
theorem dX8_say_11 : decode cX8_say 11 = .ok (.bipush (-2), 2) := by decide +kernel
theorem dX8_say_13 : decode cX8_say 13 = .ok (.ireturn, 1) := by decide +kernel
theorem dX8_say_14 : decode cX8_say 14 = .ok (.aload_n 0, 1) := by decide +kernel
theorem dX8_say_15 : decode cX8_say 15 = .ok (.getfield 26, 3) := by decide +kernel
theorem dX8_say_18 : decode cX8_say 18 = .ok (.iload_n 1, 1) := by decide +kernel
theorem dX8_say_19 : decode cX8_say 19 = .ok (.invokevirtual 104, 3) := by decide +kernel
theorem dX8_say_22 : decode cX8_say 22 = .ok (.ifCond .eq 13, 3) := by decide +kernel
theorem dX8_say_25 : decode cX8_say 25 = .ok (.aload_n 0, 1) := by decide +kernel
theorem dX8_say_26 : decode cX8_say 26 = .ok (.getfield 26, 3) := by decide +kernel
theorem dX8_say_29 : decode cX8_say 29 = .ok (.getfield 107, 3) := by decide +kernel
theorem dX8_say_32 : decode cX8_say 32 = .ok (.goto 5, 3) := by decide +kernel
theorem dX8_say_35 : decode cX8_say 35 = .ok (.bipush (-4), 2) := by decide +kernel
theorem dX8_say_37 : decode cX8_say 37 = .ok (.ireturn, 1) := by decide +kernel
theorem dX8_wipe_0 : decode cX8_wipe 0 = .ok (.aload_n 0, 1) := by decide +kernel
theorem dX8_wipe_1 : decode cX8_wipe 1 = .ok (.getfield 26, 3) := by decide +kernel
theorem dX8_wipe_4 : decode cX8_wipe 4 = .ok (.getfield 107, 3) := by decide +kernel
theorem dX8_wipe_7 : decode cX8_wipe 7 = .ok (.istore_n 1, 1) := by decide +kernel
theorem dX8_wipe_8 : decode cX8_wipe 8 = .ok (.aload_n 0, 1) := by decide +kernel
theorem dX8_wipe_9 : decode cX8_wipe 9 = .ok (.getfield 26, 3) := by decide +kernel
theorem dX8_wipe_12 : decode cX8_wipe 12 = .ok (.iconst 0, 1) := by decide +kernel
theorem dX8_wipe_13 : decode cX8_wipe 13 = .ok (.putfield 107, 3) := by decide +kernel
theorem dX8_wipe_16 : decode cX8_wipe 16 = .ok (.iload_n 1, 1) := by decide +kernel
theorem dX8_wipe_17 : decode cX8_wipe 17 = .ok (.ireturn, 1) := by decide +kernel
theorem dX8_fault_0 : decode cX8_fault 0 = .ok (.aload_n 0, 1) := by decide +kernel
theorem dX8_fault_1 : decode cX8_fault 1 = .ok (.getfield 26, 3) := by decide +kernel
theorem dX8_fault_4 : decode cX8_fault 4 = .ok (.invokevirtual 110, 3) := by decide +kernel
theorem dX8_fault_7 : decode cX8_fault 7 = .ok (.ireturn, 1) := by decide +kernel
theorem dX8_judge_0 : decode cX8_judge 0 = .ok (.iload_n 1, 1) := by decide +kernel
theorem dX8_judge_1 : decode cX8_judge 1 = .ok (.iconst 0, 1) := by decide +kernel
theorem dX8_judge_2 : decode cX8_judge 2 = .ok (.iconst 2, 1) := by decide +kernel
theorem dX8_judge_3 : decode cX8_judge 3 = .ok (.invokestatic 68, 3) := by decide +kernel
theorem dX8_judge_6 : decode cX8_judge 6 = .ok (.ifCond .ne 6, 3) := by decide +kernel
theorem dX8_judge_9 : decode cX8_judge 9 = .ok (.bipush (-2), 2) := by decide +kernel
theorem dX8_judge_11 : decode cX8_judge 11 = .ok (.ireturn, 1) := by decide +kernel
theorem dX8_judge_12 : decode cX8_judge 12 = .ok (.aload_n 0, 1) := by decide +kernel
theorem dX8_judge_13 : decode cX8_judge 13 = .ok (.getfield 33, 3) := by decide +kernel
theorem dX8_judge_16 : decode cX8_judge 16 = .ok (.aload_n 0, 1) := by decide +kernel
theorem dX8_judge_17 : decode cX8_judge 17 = .ok (.getfield 26, 3) := by decide +kernel
theorem dX8_judge_20 : decode cX8_judge 20 = .ok (.aload_n 0, 1) := by decide +kernel
theorem dX8_judge_21 : decode cX8_judge 21 = .ok (.getfield 10, 3) := by decide +kernel
theorem dX8_judge_24 : decode cX8_judge 24 = .ok (.invokevirtual 114, 3) := by decide +kernel
theorem dX8_judge_27 : decode cX8_judge 27 = .ok (.istore_n 2, 1) := by decide +kernel
theorem dX8_judge_28 : decode cX8_judge 28 = .ok (.iload_n 2, 1) := by decide +kernel
theorem dX8_judge_29 : decode cX8_judge 29 = .ok (.bipush (-5), 2) := by decide +kernel
theorem dX8_judge_31 : decode cX8_judge 31 = .ok (.if_icmp .eq 14, 3) := by decide +kernel
theorem dX8_judge_34 : decode cX8_judge 34 = .ok (.iload_n 2, 1) := by decide +kernel
theorem dX8_judge_35 : decode cX8_judge 35 = .ok (.bipush (-3), 2) := by decide +kernel
theorem dX8_judge_37 : decode cX8_judge 37 = .ok (.if_icmp .ne 10, 3) := by decide +kernel
theorem dX8_judge_40 : decode cX8_judge 40 = .ok (.iload_n 1, 1) := by decide +kernel
theorem dX8_judge_41 : decode cX8_judge 41 = .ok (.iconst 2, 1) := by decide +kernel
theorem dX8_judge_42 : decode cX8_judge 42 = .ok (.if_icmp .ne 5, 3) := by decide +kernel
theorem dX8_judge_45 : decode cX8_judge 45 = .ok (.iload_n 2, 1) := by decide +kernel
theorem dX8_judge_46 : decode cX8_judge 46 = .ok (.ireturn, 1) := by decide +kernel
theorem dX8_judge_47 : decode cX8_judge 47 = .ok (.iload_n 1, 1) := by decide +kernel
theorem dX8_judge_48 : decode cX8_judge 48 = .ok (.ifCond .ne 11, 3) := by decide +kernel
theorem dX8_judge_51 : decode cX8_judge 51 = .ok (.aload_n 0, 1) := by decide +kernel
theorem dX8_judge_52 : decode cX8_judge 52 = .ok (.getfield 33, 3) := by decide +kernel
theorem dX8_judge_55 : decode cX8_judge 55 = .ok (.getfield 118, 3) := by decide +kernel
theorem dX8_judge_58 : decode cX8_judge 58 = .ok (.ireturn, 1) := by decide +kernel
theorem dX8_judge_59 : decode cX8_judge 59 = .ok (.iload_n 1, 1) := by decide +kernel
theorem dX8_judge_60 : decode cX8_judge 60 = .ok (.iconst 1, 1) := by decide +kernel
theorem dX8_judge_61 : decode cX8_judge 61 = .ok (.if_icmp .ne 13, 3) := by decide +kernel
theorem dX8_judge_64 : decode cX8_judge 64 = .ok (.aload_n 0, 1) := by decide +kernel
theorem dX8_judge_65 : decode cX8_judge 65 = .ok (.getfield 33, 3) := by decide +kernel
theorem dX8_judge_68 : decode cX8_judge 68 = .ok (.getfield 121, 3) := by decide +kernel
theorem dX8_judge_71 : decode cX8_judge 71 = .ok (.goto 10, 3) := by decide +kernel
theorem dX8_judge_74 : decode cX8_judge 74 = .ok (.aload_n 0, 1) := by decide +kernel
theorem dX8_judge_75 : decode cX8_judge 75 = .ok (.getfield 33, 3) := by decide +kernel
theorem dX8_judge_78 : decode cX8_judge 78 = .ok (.getfield 124, 3) := by decide +kernel
theorem dX8_judge_81 : decode cX8_judge 81 = .ok (.ireturn, 1) := by decide +kernel
theorem dX8_behind_0 : decode cX8_behind 0 = .ok (.aload_n 0, 1) := by decide +kernel
theorem dX8_behind_1 : decode cX8_behind 1 = .ok (.getfield 10, 3) := by decide +kernel
theorem dX8_behind_4 : decode cX8_behind 4 = .ok (.iload_n 1, 1) := by decide +kernel
theorem dX8_behind_5 : decode cX8_behind 5 = .ok (.invokevirtual 86, 3) := by decide +kernel
theorem dX8_behind_8 : decode cX8_behind 8 = .ok (.ifCond .ne 5, 3) := by decide +kernel
theorem dX8_behind_11 : decode cX8_behind 11 = .ok (.iconst (-1), 1) := by decide +kernel
theorem dX8_behind_12 : decode cX8_behind 12 = .ok (.ireturn, 1) := by decide +kernel
theorem dX8_behind_13 : decode cX8_behind 13 = .ok (.iload_n 2, 1) := by decide +kernel
theorem dX8_behind_14 : decode cX8_behind 14 = .ok (.iconst 0, 1) := by decide +kernel
theorem dX8_behind_15 : decode cX8_behind 15 = .ok (.iconst 2, 1) := by decide +kernel
theorem dX8_behind_16 : decode cX8_behind 16 = .ok (.invokestatic 68, 3) := by decide +kernel
theorem dX8_behind_19 : decode cX8_behind 19 = .ok (.ifCond .ne 6, 3) := by decide +kernel
theorem dX8_behind_22 : decode cX8_behind 22 = .ok (.bipush (-2), 2) := by decide +kernel
theorem dX8_behind_24 : decode cX8_behind 24 = .ok (.ireturn, 1) := by decide +kernel
theorem dX8_behind_25 : decode cX8_behind 25 = .ok (.aload_n 0, 1) := by decide +kernel
theorem dX8_behind_26 : decode cX8_behind 26 = .ok (.getfield 33, 3) := by decide +kernel
theorem dX8_behind_29 : decode cX8_behind 29 = .ok (.aload_n 0, 1) := by decide +kernel
theorem dX8_behind_30 : decode cX8_behind 30 = .ok (.getfield 26, 3) := by decide +kernel
theorem dX8_behind_33 : decode cX8_behind 33 = .ok (.aload_n 0, 1) := by decide +kernel
theorem dX8_behind_34 : decode cX8_behind 34 = .ok (.getfield 10, 3) := by decide +kernel
theorem dX8_behind_37 : decode cX8_behind 37 = .ok (.invokevirtual 114, 3) := by decide +kernel
theorem dX8_behind_40 : decode cX8_behind 40 = .ok (.istore_n 3, 1) := by decide +kernel
theorem dX8_behind_41 : decode cX8_behind 41 = .ok (.iload_n 3, 1) := by decide +kernel
theorem dX8_behind_42 : decode cX8_behind 42 = .ok (.ifCond .eq 5, 3) := by decide +kernel
theorem dX8_behind_45 : decode cX8_behind 45 = .ok (.iload_n 3, 1) := by decide +kernel
theorem dX8_behind_46 : decode cX8_behind 46 = .ok (.ireturn, 1) := by decide +kernel
theorem dX8_behind_47 : decode cX8_behind 47 = .ok (.iload_n 2, 1) := by decide +kernel
theorem dX8_behind_48 : decode cX8_behind 48 = .ok (.ifCond .ne 15, 3) := by decide +kernel
theorem dX8_behind_51 : decode cX8_behind 51 = .ok (.aload_n 0, 1) := by decide +kernel
theorem dX8_behind_52 : decode cX8_behind 52 = .ok (.getfield 33, 3) := by decide +kernel
theorem dX8_behind_55 : decode cX8_behind 55 = .ok (.getfield 127, 3) := by decide +kernel
theorem dX8_behind_58 : decode cX8_behind 58 = .ok (.iload_n 1, 1) := by decide +kernel
theorem dX8_behind_59 : decode cX8_behind 59 = .ok (.invokevirtual 128, 3) := by decide +kernel
theorem dX8_behind_62 : decode cX8_behind 62 = .ok (.ireturn, 1) := by decide +kernel
theorem dX8_behind_63 : decode cX8_behind 63 = .ok (.iload_n 2, 1) := by decide +kernel
theorem dX8_behind_64 : decode cX8_behind 64 = .ok (.iconst 1, 1) := by decide +kernel
theorem dX8_behind_65 : decode cX8_behind 65 = .ok (.if_icmp .ne 16, 3) := by decide +kernel
theorem dX8_behind_68 : decode cX8_behind 68 = .ok (.aload_n 0, 1) := by decide +kernel
theorem dX8_behind_69 : decode cX8_behind 69 = .ok (.getfield 33, 3) := by decide +kernel
theorem dX8_behind_72 : decode cX8_behind 72 = .ok (.getfield 127, 3) := by decide +kernel
theorem dX8_behind_75 : decode cX8_behind 75 = .ok (.getfield 131, 3) := by decide +kernel
theorem dX8_behind_78 : decode cX8_behind 78 = .ok (.goto 13, 3) := by decide +kernel
theorem dX8_behind_81 : decode cX8_behind 81 = .ok (.aload_n 0, 1) := by decide +kernel
theorem dX8_behind_82 : decode cX8_behind 82 = .ok (.getfield 33, 3) := by decide +kernel
theorem dX8_behind_85 : decode cX8_behind 85 = .ok (.getfield 127, 3) := by decide +kernel
theorem dX8_behind_88 : decode cX8_behind 88 = .ok (.getfield 134, 3) := by decide +kernel
theorem dX8_behind_91 : decode cX8_behind 91 = .ok (.iload_n 1, 1) := by decide +kernel
theorem dX8_behind_92 : decode cX8_behind 92 = .ok (.invokestatic 137, 3) := by decide +kernel
theorem dX8_behind_95 : decode cX8_behind 95 = .ok (.ireturn, 1) := by decide +kernel
theorem dX8_owed_0 : decode cX8_owed 0 = .ok (.iload_n 1, 1) := by decide +kernel
theorem dX8_owed_1 : decode cX8_owed 1 = .ok (.iconst 0, 1) := by decide +kernel
theorem dX8_owed_2 : decode cX8_owed 2 = .ok (.iconst 1, 1) := by decide +kernel
theorem dX8_owed_3 : decode cX8_owed 3 = .ok (.invokestatic 68, 3) := by decide +kernel
theorem dX8_owed_6 : decode cX8_owed 6 = .ok (.ifCond .ne 6, 3) := by decide +kernel
theorem dX8_owed_9 : decode cX8_owed 9 = .ok (.bipush (-2), 2) := by decide +kernel
theorem dX8_owed_11 : decode cX8_owed 11 = .ok (.ireturn, 1) := by decide +kernel
theorem dX8_owed_12 : decode cX8_owed 12 = .ok (.aload_n 0, 1) := by decide +kernel
theorem dX8_owed_13 : decode cX8_owed 13 = .ok (.getfield 33, 3) := by decide +kernel
theorem dX8_owed_16 : decode cX8_owed 16 = .ok (.aload_n 0, 1) := by decide +kernel
theorem dX8_owed_17 : decode cX8_owed 17 = .ok (.getfield 26, 3) := by decide +kernel
theorem dX8_owed_20 : decode cX8_owed 20 = .ok (.aload_n 0, 1) := by decide +kernel
theorem dX8_owed_21 : decode cX8_owed 21 = .ok (.getfield 10, 3) := by decide +kernel
theorem dX8_owed_24 : decode cX8_owed 24 = .ok (.invokevirtual 114, 3) := by decide +kernel
theorem dX8_owed_27 : decode cX8_owed 27 = .ok (.istore_n 2, 1) := by decide +kernel
theorem dX8_owed_28 : decode cX8_owed 28 = .ok (.iload_n 2, 1) := by decide +kernel
theorem dX8_owed_29 : decode cX8_owed 29 = .ok (.ifCond .eq 5, 3) := by decide +kernel
theorem dX8_owed_32 : decode cX8_owed 32 = .ok (.iload_n 2, 1) := by decide +kernel
theorem dX8_owed_33 : decode cX8_owed 33 = .ok (.ireturn, 1) := by decide +kernel
theorem dX8_owed_34 : decode cX8_owed 34 = .ok (.iload_n 1, 1) := by decide +kernel
theorem dX8_owed_35 : decode cX8_owed 35 = .ok (.ifCond .ne 16, 3) := by decide +kernel
theorem dX8_owed_38 : decode cX8_owed 38 = .ok (.aload_n 0, 1) := by decide +kernel
theorem dX8_owed_39 : decode cX8_owed 39 = .ok (.getfield 33, 3) := by decide +kernel
theorem dX8_owed_42 : decode cX8_owed 42 = .ok (.getfield 127, 3) := by decide +kernel
theorem dX8_owed_45 : decode cX8_owed 45 = .ok (.invokevirtual 141, 3) := by decide +kernel
theorem dX8_owed_48 : decode cX8_owed 48 = .ok (.goto 13, 3) := by decide +kernel
theorem dX8_owed_51 : decode cX8_owed 51 = .ok (.aload_n 0, 1) := by decide +kernel
theorem dX8_owed_52 : decode cX8_owed 52 = .ok (.getfield 33, 3) := by decide +kernel
theorem dX8_owed_55 : decode cX8_owed 55 = .ok (.getfield 127, 3) := by decide +kernel
theorem dX8_owed_58 : decode cX8_owed 58 = .ok (.getfield 144, 3) := by decide +kernel
theorem dX8_owed_61 : decode cX8_owed 61 = .ok (.ireturn, 1) := by decide +kernel
theorem dX8_freed_0 : decode cX8_freed 0 = .ok (.iload_n 1, 1) := by decide +kernel
theorem dX8_freed_1 : decode cX8_freed 1 = .ok (.iconst 0, 1) := by decide +kernel
theorem dX8_freed_2 : decode cX8_freed 2 = .ok (.iconst 1, 1) := by decide +kernel
theorem dX8_freed_3 : decode cX8_freed 3 = .ok (.invokestatic 68, 3) := by decide +kernel
theorem dX8_freed_6 : decode cX8_freed 6 = .ok (.ifCond .ne 6, 3) := by decide +kernel
theorem dX8_freed_9 : decode cX8_freed 9 = .ok (.bipush (-2), 2) := by decide +kernel
theorem dX8_freed_11 : decode cX8_freed 11 = .ok (.ireturn, 1) := by decide +kernel
theorem dX8_freed_12 : decode cX8_freed 12 = .ok (.aload_n 0, 1) := by decide +kernel
theorem dX8_freed_13 : decode cX8_freed 13 = .ok (.getfield 33, 3) := by decide +kernel
theorem dX8_freed_16 : decode cX8_freed 16 = .ok (.aload_n 0, 1) := by decide +kernel
theorem dX8_freed_17 : decode cX8_freed 17 = .ok (.getfield 26, 3) := by decide +kernel
theorem dX8_freed_20 : decode cX8_freed 20 = .ok (.aload_n 0, 1) := by decide +kernel
theorem dX8_freed_21 : decode cX8_freed 21 = .ok (.getfield 10, 3) := by decide +kernel
theorem dX8_freed_24 : decode cX8_freed 24 = .ok (.invokevirtual 114, 3) := by decide +kernel
theorem dX8_freed_27 : decode cX8_freed 27 = .ok (.istore_n 2, 1) := by decide +kernel
theorem dX8_freed_28 : decode cX8_freed 28 = .ok (.iload_n 2, 1) := by decide +kernel
theorem dX8_freed_29 : decode cX8_freed 29 = .ok (.ifCond .eq 5, 3) := by decide +kernel
theorem dX8_freed_32 : decode cX8_freed 32 = .ok (.iload_n 2, 1) := by decide +kernel
theorem dX8_freed_33 : decode cX8_freed 33 = .ok (.ireturn, 1) := by decide +kernel
theorem dX8_freed_34 : decode cX8_freed 34 = .ok (.iload_n 1, 1) := by decide +kernel
theorem dX8_freed_35 : decode cX8_freed 35 = .ok (.ifCond .ne 13, 3) := by decide +kernel
theorem dX8_freed_38 : decode cX8_freed 38 = .ok (.aload_n 0, 1) := by decide +kernel
theorem dX8_freed_39 : decode cX8_freed 39 = .ok (.getfield 33, 3) := by decide +kernel
theorem dX8_freed_42 : decode cX8_freed 42 = .ok (.getfield 147, 3) := by decide +kernel
theorem dX8_freed_45 : decode cX8_freed 45 = .ok (.goto 10, 3) := by decide +kernel
theorem dX8_freed_48 : decode cX8_freed 48 = .ok (.aload_n 0, 1) := by decide +kernel
theorem dX8_freed_49 : decode cX8_freed 49 = .ok (.getfield 33, 3) := by decide +kernel
theorem dX8_freed_52 : decode cX8_freed 52 = .ok (.getfield 150, 3) := by decide +kernel
theorem dX8_freed_55 : decode cX8_freed 55 = .ok (.ireturn, 1) := by decide +kernel
theorem dX8_done_0 : decode cX8_done 0 = .ok (.aload_n 0, 1) := by decide +kernel
theorem dX8_done_1 : decode cX8_done 1 = .ok (.getfield 33, 3) := by decide +kernel
theorem dX8_done_4 : decode cX8_done 4 = .ok (.aload_n 0, 1) := by decide +kernel
theorem dX8_done_5 : decode cX8_done 5 = .ok (.getfield 26, 3) := by decide +kernel
theorem dX8_done_8 : decode cX8_done 8 = .ok (.aload_n 0, 1) := by decide +kernel
theorem dX8_done_9 : decode cX8_done 9 = .ok (.getfield 10, 3) := by decide +kernel
theorem dX8_done_12 : decode cX8_done 12 = .ok (.invokevirtual 114, 3) := by decide +kernel
theorem dX8_done_15 : decode cX8_done 15 = .ok (.istore_n 1, 1) := by decide +kernel
theorem dX8_done_16 : decode cX8_done 16 = .ok (.iload_n 1, 1) := by decide +kernel
theorem dX8_done_17 : decode cX8_done 17 = .ok (.ifCond .eq 5, 3) := by decide +kernel
theorem dX8_done_20 : decode cX8_done 20 = .ok (.iload_n 1, 1) := by decide +kernel
theorem dX8_done_21 : decode cX8_done 21 = .ok (.ireturn, 1) := by decide +kernel
theorem dX8_done_22 : decode cX8_done 22 = .ok (.aload_n 0, 1) := by decide +kernel
theorem dX8_done_23 : decode cX8_done 23 = .ok (.getfield 10, 3) := by decide +kernel
theorem dX8_done_26 : decode cX8_done 26 = .ok (.aload_n 0, 1) := by decide +kernel
theorem dX8_done_27 : decode cX8_done 27 = .ok (.getfield 33, 3) := by decide +kernel
theorem dX8_done_30 : decode cX8_done 30 = .ok (.getfield 127, 3) := by decide +kernel
theorem dX8_done_33 : decode cX8_done 33 = .ok (.invokevirtual 153, 3) := by decide +kernel
theorem dX8_done_36 : decode cX8_done 36 = .ok (.aload_n 0, 1) := by decide +kernel
theorem dX8_done_37 : decode cX8_done 37 = .ok (.getfield 26, 3) := by decide +kernel
theorem dX8_done_40 : decode cX8_done 40 = .ok (.iconst 0, 1) := by decide +kernel
theorem dX8_done_41 : decode cX8_done 41 = .ok (.putfield 107, 3) := by decide +kernel
theorem dX8_done_44 : decode cX8_done 44 = .ok (.aload_n 0, 1) := by decide +kernel
theorem dX8_done_45 : decode cX8_done 45 = .ok (.getfield 33, 3) := by decide +kernel
theorem dX8_done_48 : decode cX8_done 48 = .ok (.getfield 157, 3) := by decide +kernel
theorem dX8_done_51 : decode cX8_done 51 = .ok (.ireturn, 1) := by decide +kernel
theorem dX8_may_0 : decode cX8_may 0 = .ok (.iconst 0, 1) := by decide +kernel
theorem dX8_may_1 : decode cX8_may 1 = .ok (.istore_n 1, 1) := by decide +kernel
theorem dX8_may_2 : decode cX8_may 2 = .ok (.iconst 0, 1) := by decide +kernel
theorem dX8_may_3 : decode cX8_may 3 = .ok (.istore_n 2, 1) := by decide +kernel
theorem dX8_may_4 : decode cX8_may 4 = .ok (.iload_n 2, 1) := by decide +kernel
theorem dX8_may_5 : decode cX8_may 5 = .ok (.bipush 6, 2) := by decide +kernel
theorem dX8_may_7 : decode cX8_may 7 = .ok (.if_icmp .ge 26, 3) := by decide +kernel
theorem dX8_may_10 : decode cX8_may 10 = .ok (.aload_n 0, 1) := by decide +kernel
theorem dX8_may_11 : decode cX8_may 11 = .ok (.getfield 10, 3) := by decide +kernel
theorem dX8_may_14 : decode cX8_may 14 = .ok (.iload_n 2, 1) := by decide +kernel
theorem dX8_may_15 : decode cX8_may 15 = .ok (.invokevirtual 160, 3) := by decide +kernel
theorem dX8_may_18 : decode cX8_may 18 = .ok (.ifCond .eq 9, 3) := by decide +kernel
theorem dX8_may_21 : decode cX8_may 21 = .ok (.iload_n 1, 1) := by decide +kernel
theorem dX8_may_22 : decode cX8_may 22 = .ok (.iconst 1, 1) := by decide +kernel
theorem dX8_may_23 : decode cX8_may 23 = .ok (.iload_n 2, 1) := by decide +kernel
theorem dX8_may_24 : decode cX8_may 24 = .ok (.ishl, 1) := by decide +kernel
theorem dX8_may_25 : decode cX8_may 25 = .ok (.ior, 1) := by decide +kernel
theorem dX8_may_26 : decode cX8_may 26 = .ok (.istore_n 1, 1) := by decide +kernel
theorem dX8_may_27 : decode cX8_may 27 = .ok (.iinc 2 1, 3) := by decide +kernel
theorem dX8_may_30 : decode cX8_may 30 = .ok (.goto (-26), 3) := by decide +kernel
theorem dX8_may_33 : decode cX8_may 33 = .ok (.iload_n 1, 1) := by decide +kernel
theorem dX8_may_34 : decode cX8_may 34 = .ok (.ireturn, 1) := by decide +kernel
theorem dX8_nights_0 : decode cX8_nights 0 = .ok (.aload_n 0, 1) := by decide +kernel
theorem dX8_nights_1 : decode cX8_nights 1 = .ok (.getfield 10, 3) := by decide +kernel
theorem dX8_nights_4 : decode cX8_nights 4 = .ok (.iload_n 1, 1) := by decide +kernel
theorem dX8_nights_5 : decode cX8_nights 5 = .ok (.invokevirtual 86, 3) := by decide +kernel
theorem dX8_nights_8 : decode cX8_nights 8 = .ok (.ifCond .ne 5, 3) := by decide +kernel
theorem dX8_nights_11 : decode cX8_nights 11 = .ok (.iconst (-1), 1) := by decide +kernel
theorem dX8_nights_12 : decode cX8_nights 12 = .ok (.ireturn, 1) := by decide +kernel
theorem dX8_nights_13 : decode cX8_nights 13 = .ok (.iload_n 2, 1) := by decide +kernel
theorem dX8_nights_14 : decode cX8_nights 14 = .ok (.iconst 0, 1) := by decide +kernel
theorem dX8_nights_15 : decode cX8_nights 15 = .ok (.iconst 1, 1) := by decide +kernel
theorem dX8_nights_16 : decode cX8_nights 16 = .ok (.invokestatic 68, 3) := by decide +kernel
theorem dX8_nights_19 : decode cX8_nights 19 = .ok (.ifCond .ne 6, 3) := by decide +kernel
theorem dX8_nights_22 : decode cX8_nights 22 = .ok (.bipush (-2), 2) := by decide +kernel
theorem dX8_nights_24 : decode cX8_nights 24 = .ok (.ireturn, 1) := by decide +kernel
theorem dX8_nights_25 : decode cX8_nights 25 = .ok (.aload_n 0, 1) := by decide +kernel
theorem dX8_nights_26 : decode cX8_nights 26 = .ok (.getfield 40, 3) := by decide +kernel
theorem dX8_nights_29 : decode cX8_nights 29 = .ok (.aload_n 0, 1) := by decide +kernel
theorem dX8_nights_30 : decode cX8_nights 30 = .ok (.getfield 10, 3) := by decide +kernel
theorem dX8_nights_33 : decode cX8_nights 33 = .ok (.iload_n 1, 1) := by decide +kernel
theorem dX8_nights_34 : decode cX8_nights 34 = .ok (.invokevirtual 163, 3) := by decide +kernel
theorem dX8_nights_37 : decode cX8_nights 37 = .ok (.iload_n 2, 1) := by decide +kernel
theorem dX8_nights_38 : decode cX8_nights 38 = .ok (.ifCond .ne 13, 3) := by decide +kernel
theorem dX8_nights_41 : decode cX8_nights 41 = .ok (.aload_n 0, 1) := by decide +kernel
theorem dX8_nights_42 : decode cX8_nights 42 = .ok (.getfield 40, 3) := by decide +kernel
theorem dX8_nights_45 : decode cX8_nights 45 = .ok (.getfield 167, 3) := by decide +kernel
theorem dX8_nights_48 : decode cX8_nights 48 = .ok (.goto 10, 3) := by decide +kernel
theorem dX8_nights_51 : decode cX8_nights 51 = .ok (.aload_n 0, 1) := by decide +kernel
theorem dX8_nights_52 : decode cX8_nights 52 = .ok (.getfield 40, 3) := by decide +kernel
theorem dX8_nights_55 : decode cX8_nights 55 = .ok (.getfield 170, 3) := by decide +kernel
theorem dX8_nights_58 : decode cX8_nights 58 = .ok (.ireturn, 1) := by decide +kernel
theorem dX8_programme_0 : decode cX8_programme 0 = .ok (.iload_n 1, 1) := by decide +kernel
theorem dX8_programme_1 : decode cX8_programme 1 = .ok (.iconst 0, 1) := by decide +kernel
theorem dX8_programme_2 : decode cX8_programme 2 = .ok (.bipush 99, 2) := by decide +kernel
theorem dX8_programme_4 : decode cX8_programme 4 = .ok (.invokestatic 68, 3) := by decide +kernel
theorem dX8_programme_7 : decode cX8_programme 7 = .ok (.ifCond .eq 12, 3) := by decide +kernel
theorem dX8_programme_10 : decode cX8_programme 10 = .ok (.iload_n 2, 1) := by decide +kernel
theorem dX8_programme_11 : decode cX8_programme 11 = .ok (.iconst 0, 1) := by decide +kernel
theorem dX8_programme_12 : decode cX8_programme 12 = .ok (.iconst 1, 1) := by decide +kernel
theorem dX8_programme_13 : decode cX8_programme 13 = .ok (.invokestatic 68, 3) := by decide +kernel
theorem dX8_programme_16 : decode cX8_programme 16 = .ok (.ifCond .ne 6, 3) := by decide +kernel
theorem dX8_programme_19 : decode cX8_programme 19 = .ok (.bipush (-2), 2) := by decide +kernel
theorem dX8_programme_21 : decode cX8_programme 21 = .ok (.ireturn, 1) := by decide +kernel
theorem dX8_programme_22 : decode cX8_programme 22 = .ok (.iconst 0, 1) := by decide +kernel
theorem dX8_programme_23 : decode cX8_programme 23 = .ok (.istore_n 3, 1) := by decide +kernel
theorem dX8_programme_24 : decode cX8_programme 24 = .ok (.iconst 0, 1) := by decide +kernel
theorem dX8_programme_25 : decode cX8_programme 25 = .ok (.istore 4, 2) := by decide +kernel
theorem dX8_programme_27 : decode cX8_programme 27 = .ok (.iconst 0, 1) := by decide +kernel
theorem dX8_programme_28 : decode cX8_programme 28 = .ok (.istore 5, 2) := by decide +kernel
theorem dX8_programme_30 : decode cX8_programme 30 = .ok (.iload 5, 2) := by decide +kernel
theorem dX8_programme_32 : decode cX8_programme 32 = .ok (.bipush 64, 2) := by decide +kernel
theorem dX8_programme_34 : decode cX8_programme 34 = .ok (.if_icmp .ge 46, 3) := by decide +kernel
theorem dX8_programme_37 : decode cX8_programme 37 = .ok (.aload_n 0, 1) := by decide +kernel
theorem dX8_programme_38 : decode cX8_programme 38 = .ok (.getfield 10, 3) := by decide +kernel
theorem dX8_programme_41 : decode cX8_programme 41 = .ok (.iload 5, 2) := by decide +kernel
theorem dX8_programme_43 : decode cX8_programme 43 = .ok (.invokevirtual 173, 3) := by decide +kernel
theorem dX8_programme_46 : decode cX8_programme 46 = .ok (.istore 6, 2) := by decide +kernel
theorem dX8_programme_48 : decode cX8_programme 48 = .ok (.aload_n 0, 1) := by decide +kernel
theorem dX8_programme_49 : decode cX8_programme 49 = .ok (.getfield 10, 3) := by decide +kernel
theorem dX8_programme_52 : decode cX8_programme 52 = .ok (.iload 5, 2) := by decide +kernel
theorem dX8_programme_54 : decode cX8_programme 54 = .ok (.invokevirtual 176, 3) := by decide +kernel
theorem dX8_programme_57 : decode cX8_programme 57 = .ok (.iload_n 1, 1) := by decide +kernel
theorem dX8_programme_58 : decode cX8_programme 58 = .ok (.if_icmp .gt 16, 3) := by decide +kernel
theorem dX8_programme_61 : decode cX8_programme 61 = .ok (.iload 6, 2) := by decide +kernel
theorem dX8_programme_63 : decode cX8_programme 63 = .ok (.iload_n 3, 1) := by decide +kernel
theorem dX8_programme_64 : decode cX8_programme 64 = .ok (.if_icmp .le 10, 3) := by decide +kernel
theorem dX8_programme_67 : decode cX8_programme 67 = .ok (.iload 6, 2) := by decide +kernel
theorem dX8_programme_69 : decode cX8_programme 69 = .ok (.istore_n 3, 1) := by decide +kernel
theorem dX8_programme_70 : decode cX8_programme 70 = .ok (.iload 5, 2) := by decide +kernel
theorem dX8_programme_72 : decode cX8_programme 72 = .ok (.istore 4, 2) := by decide +kernel
theorem dX8_programme_74 : decode cX8_programme 74 = .ok (.iinc 5 1, 3) := by decide +kernel
theorem dX8_programme_77 : decode cX8_programme 77 = .ok (.goto (-47), 3) := by decide +kernel
theorem dX8_programme_80 : decode cX8_programme 80 = .ok (.iload_n 2, 1) := by decide +kernel
theorem dX8_programme_81 : decode cX8_programme 81 = .ok (.ifCond .ne 7, 3) := by decide +kernel
theorem dX8_programme_84 : decode cX8_programme 84 = .ok (.iload_n 3, 1) := by decide +kernel
theorem dX8_programme_85 : decode cX8_programme 85 = .ok (.goto 5, 3) := by decide +kernel
theorem dX8_programme_88 : decode cX8_programme 88 = .ok (.iload 4, 2) := by decide +kernel
theorem dX8_programme_90 : decode cX8_programme 90 = .ok (.ireturn, 1) := by decide +kernel
theorem dX8_ruin_0 : decode cX8_ruin 0 = .ok (.iload_n 1, 1) := by decide +kernel
theorem dX8_ruin_1 : decode cX8_ruin 1 = .ok (.iconst 0, 1) := by decide +kernel
theorem dX8_ruin_2 : decode cX8_ruin 2 = .ok (.iconst 5, 1) := by decide +kernel
theorem dX8_ruin_3 : decode cX8_ruin 3 = .ok (.invokestatic 68, 3) := by decide +kernel
theorem dX8_ruin_6 : decode cX8_ruin 6 = .ok (.ifCond .ne 5, 3) := by decide +kernel
theorem dX8_ruin_9 : decode cX8_ruin 9 = .ok (.iconst (-1), 1) := by decide +kernel
theorem dX8_ruin_10 : decode cX8_ruin 10 = .ok (.ireturn, 1) := by decide +kernel
theorem dX8_ruin_11 : decode cX8_ruin 11 = .ok (.iload_n 2, 1) := by decide +kernel
theorem dX8_ruin_12 : decode cX8_ruin 12 = .ok (.iconst 0, 1) := by decide +kernel
theorem dX8_ruin_13 : decode cX8_ruin 13 = .ok (.iconst 1, 1) := by decide +kernel
theorem dX8_ruin_14 : decode cX8_ruin 14 = .ok (.invokestatic 68, 3) := by decide +kernel
theorem dX8_ruin_17 : decode cX8_ruin 17 = .ok (.ifCond .ne 6, 3) := by decide +kernel
theorem dX8_ruin_20 : decode cX8_ruin 20 = .ok (.bipush (-2), 2) := by decide +kernel
theorem dX8_ruin_22 : decode cX8_ruin 22 = .ok (.ireturn, 1) := by decide +kernel
theorem dX8_ruin_23 : decode cX8_ruin 23 = .ok (.iconst 0, 1) := by decide +kernel
theorem dX8_ruin_24 : decode cX8_ruin 24 = .ok (.istore_n 3, 1) := by decide +kernel
theorem dX8_ruin_25 : decode cX8_ruin 25 = .ok (.iconst 0, 1) := by decide +kernel
theorem dX8_ruin_26 : decode cX8_ruin 26 = .ok (.istore 4, 2) := by decide +kernel
theorem dX8_ruin_28 : decode cX8_ruin 28 = .ok (.iload 4, 2) := by decide +kernel
theorem dX8_ruin_30 : decode cX8_ruin 30 = .ok (.iconst 4, 1) := by decide +kernel
theorem dX8_ruin_31 : decode cX8_ruin 31 = .ok (.if_icmp .ge 65, 3) := by decide +kernel
theorem dX8_ruin_34 : decode cX8_ruin 34 = .ok (.aload_n 0, 1) := by decide +kernel
theorem dX8_ruin_35 : decode cX8_ruin 35 = .ok (.getfield 10, 3) := by decide +kernel
theorem dX8_ruin_38 : decode cX8_ruin 38 = .ok (.iload_n 1, 1) := by decide +kernel
theorem dX8_ruin_39 : decode cX8_ruin 39 = .ok (.iload 4, 2) := by decide +kernel
theorem dX8_ruin_41 : decode cX8_ruin 41 = .ok (.invokevirtual 179, 3) := by decide +kernel
theorem dX8_ruin_44 : decode cX8_ruin 44 = .ok (.aload_n 0, 1) := by decide +kernel
theorem dX8_ruin_45 : decode cX8_ruin 45 = .ok (.getfield 10, 3) := by decide +kernel
theorem dX8_ruin_48 : decode cX8_ruin 48 = .ok (.iload 4, 2) := by decide +kernel
theorem dX8_ruin_50 : decode cX8_ruin 50 = .ok (.invokevirtual 182, 3) := by decide +kernel
theorem dX8_ruin_53 : decode cX8_ruin 53 = .ok (.invokestatic 80, 3) := by decide +kernel
theorem dX8_ruin_56 : decode cX8_ruin 56 = .ok (.isub, 1) := by decide +kernel
theorem dX8_ruin_57 : decode cX8_ruin 57 = .ok (.istore 5, 2) := by decide +kernel
theorem dX8_ruin_59 : decode cX8_ruin 59 = .ok (.aload_n 0, 1) := by decide +kernel
theorem dX8_ruin_60 : decode cX8_ruin 60 = .ok (.getfield 10, 3) := by decide +kernel
theorem dX8_ruin_63 : decode cX8_ruin 63 = .ok (.iload 4, 2) := by decide +kernel
theorem dX8_ruin_65 : decode cX8_ruin 65 = .ok (.iload 5, 2) := by decide +kernel
theorem dX8_ruin_67 : decode cX8_ruin 67 = .ok (.invokevirtual 185, 3) := by decide +kernel
theorem dX8_ruin_70 : decode cX8_ruin 70 = .ok (.istore 6, 2) := by decide +kernel
theorem dX8_ruin_72 : decode cX8_ruin 72 = .ok (.iload 6, 2) := by decide +kernel
theorem dX8_ruin_74 : decode cX8_ruin 74 = .ok (.invokestatic 80, 3) := by decide +kernel
theorem dX8_ruin_77 : decode cX8_ruin 77 = .ok (.iload 5, 2) := by decide +kernel
theorem dX8_ruin_79 : decode cX8_ruin 79 = .ok (.if_icmp .ge 6, 3) := by decide +kernel
theorem dX8_ruin_82 : decode cX8_ruin 82 = .ok (.bipush (-6), 2) := by decide +kernel
theorem dX8_ruin_84 : decode cX8_ruin 84 = .ok (.ireturn, 1) := by decide +kernel
theorem dX8_ruin_85 : decode cX8_ruin 85 = .ok (.iload_n 3, 1) := by decide +kernel
theorem dX8_ruin_86 : decode cX8_ruin 86 = .ok (.iload 6, 2) := by decide +kernel
theorem dX8_ruin_88 : decode cX8_ruin 88 = .ok (.ior, 1) := by decide +kernel
theorem dX8_ruin_89 : decode cX8_ruin 89 = .ok (.istore_n 3, 1) := by decide +kernel
theorem dX8_ruin_90 : decode cX8_ruin 90 = .ok (.iinc 4 1, 3) := by decide +kernel
theorem dX8_ruin_93 : decode cX8_ruin 93 = .ok (.goto (-65), 3) := by decide +kernel
theorem dX8_ruin_96 : decode cX8_ruin 96 = .ok (.iload_n 2, 1) := by decide +kernel
theorem dX8_ruin_97 : decode cX8_ruin 97 = .ok (.ifCond .ne 10, 3) := by decide +kernel
theorem dX8_ruin_100 : decode cX8_ruin 100 = .ok (.iload_n 3, 1) := by decide +kernel
theorem dX8_ruin_101 : decode cX8_ruin 101 = .ok (.invokestatic 80, 3) := by decide +kernel
theorem dX8_ruin_104 : decode cX8_ruin 104 = .ok (.goto 4, 3) := by decide +kernel
theorem dX8_ruin_107 : decode cX8_ruin 107 = .ok (.iload_n 3, 1) := by decide +kernel
theorem dX8_ruin_108 : decode cX8_ruin 108 = .ok (.ireturn, 1) := by decide +kernel
theorem dX8_seats_0 : decode cX8_seats 0 = .ok (.iload_n 1, 1) := by decide +kernel
theorem dX8_seats_1 : decode cX8_seats 1 = .ok (.iconst 0, 1) := by decide +kernel
theorem dX8_seats_2 : decode cX8_seats 2 = .ok (.bipush 6, 2) := by decide +kernel
theorem dX8_seats_4 : decode cX8_seats 4 = .ok (.invokestatic 68, 3) := by decide +kernel
theorem dX8_seats_7 : decode cX8_seats 7 = .ok (.ifCond .eq 22, 3) := by decide +kernel
theorem dX8_seats_10 : decode cX8_seats 10 = .ok (.iload_n 2, 1) := by decide +kernel
theorem dX8_seats_11 : decode cX8_seats 11 = .ok (.iconst 0, 1) := by decide +kernel
theorem dX8_seats_12 : decode cX8_seats 12 = .ok (.ldc 188, 2) := by decide +kernel
theorem dX8_seats_14 : decode cX8_seats 14 = .ok (.invokestatic 68, 3) := by decide +kernel
theorem dX8_seats_17 : decode cX8_seats 17 = .ok (.ifCond .eq 12, 3) := by decide +kernel
theorem dX8_seats_20 : decode cX8_seats 20 = .ok (.iload_n 3, 1) := by decide +kernel
theorem dX8_seats_21 : decode cX8_seats 21 = .ok (.iconst 0, 1) := by decide +kernel
theorem dX8_seats_22 : decode cX8_seats 22 = .ok (.iconst 1, 1) := by decide +kernel
theorem dX8_seats_23 : decode cX8_seats 23 = .ok (.invokestatic 68, 3) := by decide +kernel
theorem dX8_seats_26 : decode cX8_seats 26 = .ok (.ifCond .ne 6, 3) := by decide +kernel
theorem dX8_seats_29 : decode cX8_seats 29 = .ok (.bipush (-2), 2) := by decide +kernel
theorem dX8_seats_31 : decode cX8_seats 31 = .ok (.ireturn, 1) := by decide +kernel
theorem dX8_seats_32 : decode cX8_seats 32 = .ok (.iconst 0, 1) := by decide +kernel
theorem dX8_seats_33 : decode cX8_seats 33 = .ok (.istore 4, 2) := by decide +kernel
theorem dX8_seats_35 : decode cX8_seats 35 = .ok (.iconst 0, 1) := by decide +kernel
theorem dX8_seats_36 : decode cX8_seats 36 = .ok (.istore 5, 2) := by decide +kernel
theorem dX8_seats_38 : decode cX8_seats 38 = .ok (.iconst 0, 1) := by decide +kernel
theorem dX8_seats_39 : decode cX8_seats 39 = .ok (.istore 6, 2) := by decide +kernel
theorem dX8_seats_41 : decode cX8_seats 41 = .ok (.iload 6, 2) := by decide +kernel
theorem dX8_seats_43 : decode cX8_seats 43 = .ok (.bipush 6, 2) := by decide +kernel
theorem dX8_seats_45 : decode cX8_seats 45 = .ok (.if_icmp .ge 51, 3) := by decide +kernel
theorem dX8_seats_48 : decode cX8_seats 48 = .ok (.iload_n 2, 1) := by decide +kernel
theorem dX8_seats_49 : decode cX8_seats 49 = .ok (.iload 6, 2) := by decide +kernel
theorem dX8_seats_51 : decode cX8_seats 51 = .ok (.invokestatic 189, 3) := by decide +kernel
theorem dX8_seats_54 : decode cX8_seats 54 = .ok (.istore 7, 2) := by decide +kernel
theorem dX8_seats_56 : decode cX8_seats 56 = .ok (.iload 7, 2) := by decide +kernel
theorem dX8_seats_58 : decode cX8_seats 58 = .ok (.iload_n 1, 1) := by decide +kernel
theorem dX8_seats_59 : decode cX8_seats 59 = .ok (.if_icmp .ge 15, 3) := by decide +kernel
theorem dX8_seats_62 : decode cX8_seats 62 = .ok (.iload 4, 2) := by decide +kernel
theorem dX8_seats_64 : decode cX8_seats 64 = .ok (.iconst 1, 1) := by decide +kernel
theorem dX8_seats_65 : decode cX8_seats 65 = .ok (.iload 6, 2) := by decide +kernel
theorem dX8_seats_67 : decode cX8_seats 67 = .ok (.ishl, 1) := by decide +kernel
theorem dX8_seats_68 : decode cX8_seats 68 = .ok (.ior, 1) := by decide +kernel
theorem dX8_seats_69 : decode cX8_seats 69 = .ok (.istore 4, 2) := by decide +kernel
theorem dX8_seats_71 : decode cX8_seats 71 = .ok (.goto 19, 3) := by decide +kernel
theorem dX8_seats_74 : decode cX8_seats 74 = .ok (.iload 7, 2) := by decide +kernel
theorem dX8_seats_76 : decode cX8_seats 76 = .ok (.iload_n 1, 1) := by decide +kernel
theorem dX8_seats_77 : decode cX8_seats 77 = .ok (.if_icmp .ne 13, 3) := by decide +kernel
theorem dX8_seats_80 : decode cX8_seats 80 = .ok (.iload_n 2, 1) := by decide +kernel
theorem dX8_seats_81 : decode cX8_seats 81 = .ok (.iconst 5, 1) := by decide +kernel
theorem dX8_seats_82 : decode cX8_seats 82 = .ok (.iload 6, 2) := by decide +kernel
theorem dX8_seats_84 : decode cX8_seats 84 = .ok (.isub, 1) := by decide +kernel
theorem dX8_seats_85 : decode cX8_seats 85 = .ok (.invokestatic 192, 3) := by decide +kernel
theorem dX8_seats_88 : decode cX8_seats 88 = .ok (.istore 5, 2) := by decide +kernel
theorem dX8_seats_90 : decode cX8_seats 90 = .ok (.iinc 6 1, 3) := by decide +kernel
theorem dX8_seats_93 : decode cX8_seats 93 = .ok (.goto (-52), 3) := by decide +kernel
theorem dX8_seats_96 : decode cX8_seats 96 = .ok (.iload_n 3, 1) := by decide +kernel
theorem dX8_seats_97 : decode cX8_seats 97 = .ok (.ifCond .ne 8, 3) := by decide +kernel
theorem dX8_seats_100 : decode cX8_seats 100 = .ok (.iload 4, 2) := by decide +kernel
theorem dX8_seats_102 : decode cX8_seats 102 = .ok (.goto 5, 3) := by decide +kernel
theorem dX8_seats_105 : decode cX8_seats 105 = .ok (.iload 5, 2) := by decide +kernel
theorem dX8_seats_107 : decode cX8_seats 107 = .ok (.ireturn, 1) := by decide +kernel
theorem dX8_rings_0 : decode cX8_rings 0 = .ok (.iload_n 1, 1) := by decide +kernel
theorem dX8_rings_1 : decode cX8_rings 1 = .ok (.invokestatic 195, 3) := by decide +kernel
theorem dX8_rings_4 : decode cX8_rings 4 = .ok (.ifCond .eq 35, 3) := by decide +kernel
theorem dX8_rings_7 : decode cX8_rings 7 = .ok (.iload_n 2, 1) := by decide +kernel
theorem dX8_rings_8 : decode cX8_rings 8 = .ok (.invokestatic 195, 3) := by decide +kernel
theorem dX8_rings_11 : decode cX8_rings 11 = .ok (.ifCond .eq 28, 3) := by decide +kernel
theorem dX8_rings_14 : decode cX8_rings 14 = .ok (.iload_n 3, 1) := by decide +kernel
theorem dX8_rings_15 : decode cX8_rings 15 = .ok (.invokestatic 195, 3) := by decide +kernel
theorem dX8_rings_18 : decode cX8_rings 18 = .ok (.ifCond .eq 21, 3) := by decide +kernel
theorem dX8_rings_21 : decode cX8_rings 21 = .ok (.iload 4, 2) := by decide +kernel
theorem dX8_rings_23 : decode cX8_rings 23 = .ok (.invokestatic 195, 3) := by decide +kernel
theorem dX8_rings_26 : decode cX8_rings 26 = .ok (.ifCond .eq 13, 3) := by decide +kernel
theorem dX8_rings_29 : decode cX8_rings 29 = .ok (.iload 5, 2) := by decide +kernel
theorem dX8_rings_31 : decode cX8_rings 31 = .ok (.iconst 0, 1) := by decide +kernel
theorem dX8_rings_32 : decode cX8_rings 32 = .ok (.iconst 1, 1) := by decide +kernel
theorem dX8_rings_33 : decode cX8_rings 33 = .ok (.invokestatic 68, 3) := by decide +kernel
theorem dX8_rings_36 : decode cX8_rings 36 = .ok (.ifCond .ne 6, 3) := by decide +kernel
theorem dX8_rings_39 : decode cX8_rings 39 = .ok (.bipush (-2), 2) := by decide +kernel
theorem dX8_rings_41 : decode cX8_rings 41 = .ok (.ireturn, 1) := by decide +kernel
theorem dX8_rings_42 : decode cX8_rings 42 = .ok (.aload_n 0, 1) := by decide +kernel
theorem dX8_rings_43 : decode cX8_rings 43 = .ok (.getfield 47, 3) := by decide +kernel
theorem dX8_rings_46 : decode cX8_rings 46 = .ok (.iload_n 1, 1) := by decide +kernel
theorem dX8_rings_47 : decode cX8_rings 47 = .ok (.iload_n 2, 1) := by decide +kernel
theorem dX8_rings_48 : decode cX8_rings 48 = .ok (.iload_n 3, 1) := by decide +kernel
theorem dX8_rings_49 : decode cX8_rings 49 = .ok (.iload 4, 2) := by decide +kernel
theorem dX8_rings_51 : decode cX8_rings 51 = .ok (.invokevirtual 198, 3) := by decide +kernel
theorem dX8_rings_54 : decode cX8_rings 54 = .ok (.aload_n 0, 1) := by decide +kernel
theorem dX8_rings_55 : decode cX8_rings 55 = .ok (.getfield 47, 3) := by decide +kernel
theorem dX8_rings_58 : decode cX8_rings 58 = .ok (.invokevirtual 201, 3) := by decide +kernel
theorem dX8_rings_61 : decode cX8_rings 61 = .ok (.iload 5, 2) := by decide +kernel
theorem dX8_rings_63 : decode cX8_rings 63 = .ok (.ifCond .ne 13, 3) := by decide +kernel
theorem dX8_rings_66 : decode cX8_rings 66 = .ok (.aload_n 0, 1) := by decide +kernel
theorem dX8_rings_67 : decode cX8_rings 67 = .ok (.getfield 47, 3) := by decide +kernel
theorem dX8_rings_70 : decode cX8_rings 70 = .ok (.invokevirtual 204, 3) := by decide +kernel
theorem dX8_rings_73 : decode cX8_rings 73 = .ok (.goto 10, 3) := by decide +kernel
theorem dX8_rings_76 : decode cX8_rings 76 = .ok (.aload_n 0, 1) := by decide +kernel
theorem dX8_rings_77 : decode cX8_rings 77 = .ok (.getfield 47, 3) := by decide +kernel
theorem dX8_rings_80 : decode cX8_rings 80 = .ok (.invokevirtual 207, 3) := by decide +kernel
theorem dX8_rings_83 : decode cX8_rings 83 = .ok (.ireturn, 1) := by decide +kernel
theorem dX8_seen_0 : decode cX8_seen 0 = .ok (.iload_n 1, 1) := by decide +kernel
theorem dX8_seen_1 : decode cX8_seen 1 = .ok (.iconst 1, 1) := by decide +kernel
theorem dX8_seen_2 : decode cX8_seen 2 = .ok (.bipush 9, 2) := by decide +kernel
theorem dX8_seen_4 : decode cX8_seen 4 = .ok (.invokestatic 68, 3) := by decide +kernel
theorem dX8_seen_7 : decode cX8_seen 7 = .ok (.ifCond .eq 13, 3) := by decide +kernel
theorem dX8_seen_10 : decode cX8_seen 10 = .ok (.iload_n 2, 1) := by decide +kernel
theorem dX8_seen_11 : decode cX8_seen 11 = .ok (.iconst 0, 1) := by decide +kernel
theorem dX8_seen_12 : decode cX8_seen 12 = .ok (.bipush 18, 2) := by decide +kernel
theorem dX8_seen_14 : decode cX8_seen 14 = .ok (.invokestatic 68, 3) := by decide +kernel
theorem dX8_seen_17 : decode cX8_seen 17 = .ok (.ifCond .ne 6, 3) := by decide +kernel
theorem dX8_seen_20 : decode cX8_seen 20 = .ok (.bipush (-2), 2) := by decide +kernel
theorem dX8_seen_22 : decode cX8_seen 22 = .ok (.ireturn, 1) := by decide +kernel
theorem dX8_seen_23 : decode cX8_seen 23 = .ok (.aload_n 0, 1) := by decide +kernel
theorem dX8_seen_24 : decode cX8_seen 24 = .ok (.getfield 19, 3) := by decide +kernel
theorem dX8_seen_27 : decode cX8_seen 27 = .ok (.iload_n 1, 1) := by decide +kernel
theorem dX8_seen_28 : decode cX8_seen 28 = .ok (.iload_n 2, 1) := by decide +kernel
theorem dX8_seen_29 : decode cX8_seen 29 = .ok (.invokevirtual 210, 3) := by decide +kernel
theorem dX8_seen_32 : decode cX8_seen 32 = .ok (.ifCond .eq 13, 3) := by decide +kernel
theorem dX8_seen_35 : decode cX8_seen 35 = .ok (.aload_n 0, 1) := by decide +kernel
theorem dX8_seen_36 : decode cX8_seen 36 = .ok (.getfield 19, 3) := by decide +kernel
theorem dX8_seen_39 : decode cX8_seen 39 = .ok (.getfield 213, 3) := by decide +kernel
theorem dX8_seen_42 : decode cX8_seen 42 = .ok (.goto 5, 3) := by decide +kernel
theorem dX8_seen_45 : decode cX8_seen 45 = .ok (.bipush (-4), 2) := by decide +kernel
theorem dX8_seen_47 : decode cX8_seen 47 = .ok (.ireturn, 1) := by decide +kernel
theorem dX8_forget_0 : decode cX8_forget 0 = .ok (.aload_n 0, 1) := by decide +kernel
theorem dX8_forget_1 : decode cX8_forget 1 = .ok (.getfield 19, 3) := by decide +kernel
theorem dX8_forget_4 : decode cX8_forget 4 = .ok (.getfield 213, 3) := by decide +kernel
theorem dX8_forget_7 : decode cX8_forget 7 = .ok (.istore_n 1, 1) := by decide +kernel
theorem dX8_forget_8 : decode cX8_forget 8 = .ok (.aload_n 0, 1) := by decide +kernel
theorem dX8_forget_9 : decode cX8_forget 9 = .ok (.getfield 19, 3) := by decide +kernel
theorem dX8_forget_12 : decode cX8_forget 12 = .ok (.iconst 0, 1) := by decide +kernel
theorem dX8_forget_13 : decode cX8_forget 13 = .ok (.putfield 213, 3) := by decide +kernel
theorem dX8_forget_16 : decode cX8_forget 16 = .ok (.iload_n 1, 1) := by decide +kernel
theorem dX8_forget_17 : decode cX8_forget 17 = .ok (.ireturn, 1) := by decide +kernel
theorem dX8_holds_0 : decode cX8_holds 0 = .ok (.aload_n 0, 1) := by decide +kernel
theorem dX8_holds_1 : decode cX8_holds 1 = .ok (.getfield 19, 3) := by decide +kernel
theorem dX8_holds_4 : decode cX8_holds 4 = .ok (.invokevirtual 214, 3) := by decide +kernel
theorem dX8_holds_7 : decode cX8_holds 7 = .ok (.iload_n 1, 1) := by decide +kernel
theorem dX8_holds_8 : decode cX8_holds 8 = .ok (.iconst (-1), 1) := by decide +kernel
theorem dX8_holds_9 : decode cX8_holds 9 = .ok (.if_icmp .ne 13, 3) := by decide +kernel
theorem dX8_holds_12 : decode cX8_holds 12 = .ok (.aload_n 0, 1) := by decide +kernel
theorem dX8_holds_13 : decode cX8_holds 13 = .ok (.getfield 19, 3) := by decide +kernel
theorem dX8_holds_16 : decode cX8_holds 16 = .ok (.getfield 217, 3) := by decide +kernel
theorem dX8_holds_19 : decode cX8_holds 19 = .ok (.goto 11, 3) := by decide +kernel
theorem dX8_holds_22 : decode cX8_holds 22 = .ok (.aload_n 0, 1) := by decide +kernel
theorem dX8_holds_23 : decode cX8_holds 23 = .ok (.getfield 19, 3) := by decide +kernel
theorem dX8_holds_26 : decode cX8_holds 26 = .ok (.iload_n 1, 1) := by decide +kernel
theorem dX8_holds_27 : decode cX8_holds 27 = .ok (.invokevirtual 220, 3) := by decide +kernel
theorem dX8_holds_30 : decode cX8_holds 30 = .ok (.ireturn, 1) := by decide +kernel
theorem dX8_ask_0 : decode cX8_ask 0 = .ok (.iload_n 1, 1) := by decide +kernel
theorem dX8_ask_1 : decode cX8_ask 1 = .ok (.iconst 0, 1) := by decide +kernel
theorem dX8_ask_2 : decode cX8_ask 2 = .ok (.iconst 1, 1) := by decide +kernel
theorem dX8_ask_3 : decode cX8_ask 3 = .ok (.invokestatic 68, 3) := by decide +kernel
theorem dX8_ask_6 : decode cX8_ask 6 = .ok (.ifCond .ne 6, 3) := by decide +kernel
theorem dX8_ask_9 : decode cX8_ask 9 = .ok (.bipush (-2), 2) := by decide +kernel
theorem dX8_ask_11 : decode cX8_ask 11 = .ok (.ireturn, 1) := by decide +kernel
theorem dX8_ask_12 : decode cX8_ask 12 = .ok (.aload_n 0, 1) := by decide +kernel
theorem dX8_ask_13 : decode cX8_ask 13 = .ok (.getfield 19, 3) := by decide +kernel
theorem dX8_ask_16 : decode cX8_ask 16 = .ok (.invokevirtual 214, 3) := by decide +kernel
theorem dX8_ask_19 : decode cX8_ask 19 = .ok (.aload_n 0, 1) := by decide +kernel
theorem dX8_ask_20 : decode cX8_ask 20 = .ok (.getfield 19, 3) := by decide +kernel
theorem dX8_ask_23 : decode cX8_ask 23 = .ok (.getfield 217, 3) := by decide +kernel
theorem dX8_ask_26 : decode cX8_ask 26 = .ok (.ifCond .ne 6, 3) := by decide +kernel
theorem dX8_ask_29 : decode cX8_ask 29 = .ok (.bipush (-6), 2) := by decide +kernel
theorem dX8_ask_31 : decode cX8_ask 31 = .ok (.ireturn, 1) := by decide +kernel
theorem dX8_ask_32 : decode cX8_ask 32 = .ok (.iconst 1, 1) := by decide +kernel
theorem dX8_ask_33 : decode cX8_ask 33 = .ok (.istore_n 2, 1) := by decide +kernel
theorem dX8_ask_34 : decode cX8_ask 34 = .ok (.aload_n 0, 1) := by decide +kernel
theorem dX8_ask_35 : decode cX8_ask 35 = .ok (.getfield 19, 3) := by decide +kernel
theorem dX8_ask_38 : decode cX8_ask 38 = .ok (.iconst 1, 1) := by decide +kernel
theorem dX8_ask_39 : decode cX8_ask 39 = .ok (.invokevirtual 223, 3) := by decide +kernel
theorem dX8_ask_42 : decode cX8_ask 42 = .ok (.istore_n 3, 1) := by decide +kernel
theorem dX8_ask_43 : decode cX8_ask 43 = .ok (.iconst 2, 1) := by decide +kernel
theorem dX8_ask_44 : decode cX8_ask 44 = .ok (.istore 4, 2) := by decide +kernel
theorem dX8_ask_46 : decode cX8_ask 46 = .ok (.iload 4, 2) := by decide +kernel
theorem dX8_ask_48 : decode cX8_ask 48 = .ok (.bipush 9, 2) := by decide +kernel
theorem dX8_ask_50 : decode cX8_ask 50 = .ok (.if_icmp .gt 32, 3) := by decide +kernel
theorem dX8_ask_53 : decode cX8_ask 53 = .ok (.aload_n 0, 1) := by decide +kernel
theorem dX8_ask_54 : decode cX8_ask 54 = .ok (.getfield 19, 3) := by decide +kernel
theorem dX8_ask_57 : decode cX8_ask 57 = .ok (.iload 4, 2) := by decide +kernel
theorem dX8_ask_59 : decode cX8_ask 59 = .ok (.invokevirtual 223, 3) := by decide +kernel
theorem dX8_ask_62 : decode cX8_ask 62 = .ok (.istore 5, 2) := by decide +kernel
theorem dX8_ask_64 : decode cX8_ask 64 = .ok (.iload 5, 2) := by decide +kernel
theorem dX8_ask_66 : decode cX8_ask 66 = .ok (.iload_n 3, 1) := by decide +kernel
theorem dX8_ask_67 : decode cX8_ask 67 = .ok (.if_icmp .ge 9, 3) := by decide +kernel
theorem dX8_ask_70 : decode cX8_ask 70 = .ok (.iload 4, 2) := by decide +kernel
theorem dX8_ask_72 : decode cX8_ask 72 = .ok (.istore_n 2, 1) := by decide +kernel
theorem dX8_ask_73 : decode cX8_ask 73 = .ok (.iload 5, 2) := by decide +kernel
theorem dX8_ask_75 : decode cX8_ask 75 = .ok (.istore_n 3, 1) := by decide +kernel
theorem dX8_ask_76 : decode cX8_ask 76 = .ok (.iinc 4 1, 3) := by decide +kernel
theorem dX8_ask_79 : decode cX8_ask 79 = .ok (.goto (-33), 3) := by decide +kernel
theorem dX8_ask_82 : decode cX8_ask 82 = .ok (.iload_n 1, 1) := by decide +kernel
theorem dX8_ask_83 : decode cX8_ask 83 = .ok (.ifCond .ne 7, 3) := by decide +kernel
theorem dX8_ask_86 : decode cX8_ask 86 = .ok (.iload_n 2, 1) := by decide +kernel
theorem dX8_ask_87 : decode cX8_ask 87 = .ok (.goto 4, 3) := by decide +kernel
theorem dX8_ask_90 : decode cX8_ask 90 = .ok (.iload_n 3, 1) := by decide +kernel
theorem dX8_ask_91 : decode cX8_ask 91 = .ok (.ireturn, 1) := by decide +kernel
theorem dX8_fugue_0 : decode cX8_fugue 0 = .ok (.iload_n 1, 1) := by decide +kernel
theorem dX8_fugue_1 : decode cX8_fugue 1 = .ok (.iconst 0, 1) := by decide +kernel
theorem dX8_fugue_2 : decode cX8_fugue 2 = .ok (.bipush 9, 2) := by decide +kernel
theorem dX8_fugue_4 : decode cX8_fugue 4 = .ok (.invokestatic 68, 3) := by decide +kernel
theorem dX8_fugue_7 : decode cX8_fugue 7 = .ok (.ifCond .eq 65, 3) := by decide +kernel
theorem dX8_fugue_10 : decode cX8_fugue 10 = .ok (.iload_n 2, 1) := by decide +kernel
theorem dX8_fugue_11 : decode cX8_fugue 11 = .ok (.iconst 0, 1) := by decide +kernel
theorem dX8_fugue_12 : decode cX8_fugue 12 = .ok (.bipush 8, 2) := by decide +kernel
theorem dX8_fugue_14 : decode cX8_fugue 14 = .ok (.invokestatic 68, 3) := by decide +kernel
theorem dX8_fugue_17 : decode cX8_fugue 17 = .ok (.ifCond .eq 55, 3) := by decide +kernel
theorem dX8_fugue_20 : decode cX8_fugue 20 = .ok (.iload_n 3, 1) := by decide +kernel
theorem dX8_fugue_21 : decode cX8_fugue 21 = .ok (.iconst 0, 1) := by decide +kernel
theorem dX8_fugue_22 : decode cX8_fugue 22 = .ok (.bipush 10, 2) := by decide +kernel
theorem dX8_fugue_24 : decode cX8_fugue 24 = .ok (.invokestatic 68, 3) := by decide +kernel
theorem dX8_fugue_27 : decode cX8_fugue 27 = .ok (.ifCond .eq 45, 3) := by decide +kernel
theorem dX8_fugue_30 : decode cX8_fugue 30 = .ok (.iload 4, 2) := by decide +kernel
theorem dX8_fugue_32 : decode cX8_fugue 32 = .ok (.iconst 0, 1) := by decide +kernel
theorem dX8_fugue_33 : decode cX8_fugue 33 = .ok (.bipush 9, 2) := by decide +kernel
theorem dX8_fugue_35 : decode cX8_fugue 35 = .ok (.invokestatic 68, 3) := by decide +kernel
theorem dX8_fugue_38 : decode cX8_fugue 38 = .ok (.ifCond .eq 34, 3) := by decide +kernel
theorem dX8_fugue_41 : decode cX8_fugue 41 = .ok (.iload 5, 2) := by decide +kernel
theorem dX8_fugue_43 : decode cX8_fugue 43 = .ok (.iconst 0, 1) := by decide +kernel
theorem dX8_fugue_44 : decode cX8_fugue 44 = .ok (.bipush 9, 2) := by decide +kernel
theorem dX8_fugue_46 : decode cX8_fugue 46 = .ok (.invokestatic 68, 3) := by decide +kernel
theorem dX8_fugue_49 : decode cX8_fugue 49 = .ok (.ifCond .eq 23, 3) := by decide +kernel
theorem dX8_fugue_52 : decode cX8_fugue 52 = .ok (.iload 6, 2) := by decide +kernel
theorem dX8_fugue_54 : decode cX8_fugue 54 = .ok (.iconst 0, 1) := by decide +kernel
theorem dX8_fugue_55 : decode cX8_fugue 55 = .ok (.iconst 1, 1) := by decide +kernel
theorem dX8_fugue_56 : decode cX8_fugue 56 = .ok (.invokestatic 68, 3) := by decide +kernel
theorem dX8_fugue_59 : decode cX8_fugue 59 = .ok (.ifCond .eq 13, 3) := by decide +kernel
theorem dX8_fugue_62 : decode cX8_fugue 62 = .ok (.iload 7, 2) := by decide +kernel
theorem dX8_fugue_64 : decode cX8_fugue 64 = .ok (.iconst 0, 1) := by decide +kernel
theorem dX8_fugue_65 : decode cX8_fugue 65 = .ok (.iconst 1, 1) := by decide +kernel
theorem dX8_fugue_66 : decode cX8_fugue 66 = .ok (.invokestatic 68, 3) := by decide +kernel
theorem dX8_fugue_69 : decode cX8_fugue 69 = .ok (.ifCond .ne 7, 3) := by decide +kernel
theorem dX8_fugue_72 : decode cX8_fugue 72 = .ok (.ldc2_w 226, 3) := by decide +kernel
theorem dX8_fugue_75 : decode cX8_fugue 75 = .ok (.lreturn, 1) := by decide +kernel
theorem dX8_fugue_76 : decode cX8_fugue 76 = .ok (.aload_n 0, 1) := by decide +kernel
theorem dX8_fugue_77 : decode cX8_fugue 77 = .ok (.getfield 54, 3) := by decide +kernel
theorem dX8_fugue_80 : decode cX8_fugue 80 = .ok (.iload 5, 2) := by decide +kernel
theorem dX8_fugue_82 : decode cX8_fugue 82 = .ok (.invokevirtual 228, 3) := by decide +kernel
theorem dX8_fugue_85 : decode cX8_fugue 85 = .ok (.iconst 0, 1) := by decide +kernel
theorem dX8_fugue_86 : decode cX8_fugue 86 = .ok (.istore 8, 2) := by decide +kernel
theorem dX8_fugue_88 : decode cX8_fugue 88 = .ok (.iload 8, 2) := by decide +kernel
theorem dX8_fugue_90 : decode cX8_fugue 90 = .ok (.iload_n 2, 1) := by decide +kernel
theorem dX8_fugue_91 : decode cX8_fugue 91 = .ok (.if_icmp .ge 19, 3) := by decide +kernel
theorem dX8_fugue_94 : decode cX8_fugue 94 = .ok (.aload_n 0, 1) := by decide +kernel
theorem dX8_fugue_95 : decode cX8_fugue 95 = .ok (.getfield 54, 3) := by decide +kernel
theorem dX8_fugue_98 : decode cX8_fugue 98 = .ok (.iload_n 3, 1) := by decide +kernel
theorem dX8_fugue_99 : decode cX8_fugue 99 = .ok (.iload 4, 2) := by decide +kernel
theorem dX8_fugue_101 : decode cX8_fugue 101 = .ok (.invokevirtual 230, 3) := by decide +kernel
theorem dX8_fugue_104 : decode cX8_fugue 104 = .ok (.iinc 8 1, 3) := by decide +kernel
theorem dX8_fugue_107 : decode cX8_fugue 107 = .ok (.goto (-19), 3) := by decide +kernel
theorem dX8_fugue_110 : decode cX8_fugue 110 = .ok (.iload 6, 2) := by decide +kernel
theorem dX8_fugue_112 : decode cX8_fugue 112 = .ok (.iconst 1, 1) := by decide +kernel
theorem dX8_fugue_113 : decode cX8_fugue 113 = .ok (.if_icmp .ne 16, 3) := by decide +kernel
theorem dX8_fugue_116 : decode cX8_fugue 116 = .ok (.aload_n 0, 1) := by decide +kernel
theorem dX8_fugue_117 : decode cX8_fugue 117 = .ok (.getfield 54, 3) := by decide +kernel
theorem dX8_fugue_120 : decode cX8_fugue 120 = .ok (.getfield 234, 3) := by decide +kernel
theorem dX8_fugue_123 : decode cX8_fugue 123 = .ok (.iload_n 1, 1) := by decide +kernel
theorem dX8_fugue_124 : decode cX8_fugue 124 = .ok (.invokestatic 137, 3) := by decide +kernel
theorem dX8_fugue_127 : decode cX8_fugue 127 = .ok (.i2l, 1) := by decide +kernel
theorem dX8_fugue_128 : decode cX8_fugue 128 = .ok (.lreturn, 1) := by decide +kernel
theorem dX8_fugue_129 : decode cX8_fugue 129 = .ok (.aload_n 0, 1) := by decide +kernel
theorem dX8_fugue_130 : decode cX8_fugue 130 = .ok (.getfield 54, 3) := by decide +kernel
theorem dX8_fugue_133 : decode cX8_fugue 133 = .ok (.iload_n 1, 1) := by decide +kernel
theorem dX8_fugue_134 : decode cX8_fugue 134 = .ok (.invokevirtual 237, 3) := by decide +kernel
theorem dX8_fugue_137 : decode cX8_fugue 137 = .ok (.lstore 8, 2) := by decide +kernel
theorem dX8_fugue_139 : decode cX8_fugue 139 = .ok (.lload 8, 2) := by decide +kernel
theorem dX8_fugue_141 : decode cX8_fugue 141 = .ok (.aload_n 0, 1) := by decide +kernel
theorem dX8_fugue_142 : decode cX8_fugue 142 = .ok (.getfield 54, 3) := by decide +kernel
theorem dX8_fugue_145 : decode cX8_fugue 145 = .ok (.getfield 241, 3) := by decide +kernel
theorem dX8_fugue_148 : decode cX8_fugue 148 = .ok (.invokestatic 245, 3) := by decide +kernel
theorem dX8_fugue_151 : decode cX8_fugue 151 = .ok (.lstore 10, 2) := by decide +kernel
theorem dX8_fugue_153 : decode cX8_fugue 153 = .ok (.iload 7, 2) := by decide +kernel
theorem dX8_fugue_155 : decode cX8_fugue 155 = .ok (.ifCond .ne 8, 3) := by decide +kernel
theorem dX8_fugue_158 : decode cX8_fugue 158 = .ok (.lload 8, 2) := by decide +kernel
theorem dX8_fugue_160 : decode cX8_fugue 160 = .ok (.goto 10, 3) := by decide +kernel
theorem dX8_fugue_163 : decode cX8_fugue 163 = .ok (.aload_n 0, 1) := by decide +kernel
theorem dX8_fugue_164 : decode cX8_fugue 164 = .ok (.getfield 54, 3) := by decide +kernel
theorem dX8_fugue_167 : decode cX8_fugue 167 = .ok (.getfield 241, 3) := by decide +kernel
theorem dX8_fugue_170 : decode cX8_fugue 170 = .ok (.lload 10, 2) := by decide +kernel
theorem dX8_fugue_172 : decode cX8_fugue 172 = .ok (.ldiv, 1) := by decide +kernel
theorem dX8_fugue_173 : decode cX8_fugue 173 = .ok (.lreturn, 1) := by decide +kernel
theorem dX8_year_0 : decode cX8_year 0 = .ok (.iload_n 1, 1) := by decide +kernel
theorem dX8_year_1 : decode cX8_year 1 = .ok (.iconst 0, 1) := by decide +kernel
theorem dX8_year_2 : decode cX8_year 2 = .ok (.sipush 9999, 3) := by decide +kernel
theorem dX8_year_5 : decode cX8_year 5 = .ok (.invokestatic 68, 3) := by decide +kernel
theorem dX8_year_8 : decode cX8_year 8 = .ok (.ifCond .eq 22, 3) := by decide +kernel
theorem dX8_year_11 : decode cX8_year 11 = .ok (.iload_n 2, 1) := by decide +kernel
theorem dX8_year_12 : decode cX8_year 12 = .ok (.iconst 1, 1) := by decide +kernel
theorem dX8_year_13 : decode cX8_year 13 = .ok (.bipush 99, 2) := by decide +kernel
theorem dX8_year_15 : decode cX8_year 15 = .ok (.invokestatic 68, 3) := by decide +kernel
theorem dX8_year_18 : decode cX8_year 18 = .ok (.ifCond .eq 12, 3) := by decide +kernel
theorem dX8_year_21 : decode cX8_year 21 = .ok (.iload_n 3, 1) := by decide +kernel
theorem dX8_year_22 : decode cX8_year 22 = .ok (.iconst 0, 1) := by decide +kernel
theorem dX8_year_23 : decode cX8_year 23 = .ok (.iconst 2, 1) := by decide +kernel
theorem dX8_year_24 : decode cX8_year 24 = .ok (.invokestatic 68, 3) := by decide +kernel
theorem dX8_year_27 : decode cX8_year 27 = .ok (.ifCond .ne 6, 3) := by decide +kernel
theorem dX8_year_30 : decode cX8_year 30 = .ok (.bipush (-2), 2) := by decide +kernel
theorem dX8_year_32 : decode cX8_year 32 = .ok (.ireturn, 1) := by decide +kernel
theorem dX8_year_33 : decode cX8_year 33 = .ok (.aload_n 0, 1) := by decide +kernel
theorem dX8_year_34 : decode cX8_year 34 = .ok (.getfield 33, 3) := by decide +kernel
theorem dX8_year_37 : decode cX8_year 37 = .ok (.aload_n 0, 1) := by decide +kernel
theorem dX8_year_38 : decode cX8_year 38 = .ok (.getfield 10, 3) := by decide +kernel
theorem dX8_year_41 : decode cX8_year 41 = .ok (.invokevirtual 249, 3) := by decide +kernel
theorem dX8_year_44 : decode cX8_year 44 = .ok (.iload_n 1, 1) := by decide +kernel
theorem dX8_year_45 : decode cX8_year 45 = .ok (.istore 4, 2) := by decide +kernel
theorem dX8_year_47 : decode cX8_year 47 = .ok (.iconst 0, 1) := by decide +kernel
theorem dX8_year_48 : decode cX8_year 48 = .ok (.istore 5, 2) := by decide +kernel
theorem dX8_year_50 : decode cX8_year 50 = .ok (.iload 5, 2) := by decide +kernel
theorem dX8_year_52 : decode cX8_year 52 = .ok (.iload_n 2, 1) := by decide +kernel
theorem dX8_year_53 : decode cX8_year 53 = .ok (.if_icmp .ge 31, 3) := by decide +kernel
theorem dX8_year_56 : decode cX8_year 56 = .ok (.bipush 75, 2) := by decide +kernel
theorem dX8_year_58 : decode cX8_year 58 = .ok (.iload 4, 2) := by decide +kernel
theorem dX8_year_60 : decode cX8_year 60 = .ok (.imul, 1) := by decide +kernel
theorem dX8_year_61 : decode cX8_year 61 = .ok (.bipush 74, 2) := by decide +kernel
theorem dX8_year_63 : decode cX8_year 63 = .ok (.iadd, 1) := by decide +kernel
theorem dX8_year_64 : decode cX8_year 64 = .ok (.ldc 251, 2) := by decide +kernel
theorem dX8_year_66 : decode cX8_year 66 = .ok (.irem, 1) := by decide +kernel
theorem dX8_year_67 : decode cX8_year 67 = .ok (.istore 4, 2) := by decide +kernel
theorem dX8_year_69 : decode cX8_year 69 = .ok (.aload_n 0, 1) := by decide +kernel
theorem dX8_year_70 : decode cX8_year 70 = .ok (.getfield 33, 3) := by decide +kernel
theorem dX8_year_73 : decode cX8_year 73 = .ok (.iload 4, 2) := by decide +kernel
theorem dX8_year_75 : decode cX8_year 75 = .ok (.invokevirtual 252, 3) := by decide +kernel
theorem dX8_year_78 : decode cX8_year 78 = .ok (.iinc 5 1, 3) := by decide +kernel
theorem dX8_year_81 : decode cX8_year 81 = .ok (.goto (-31), 3) := by decide +kernel
theorem dX8_year_84 : decode cX8_year 84 = .ok (.iload_n 3, 1) := by decide +kernel
theorem dX8_year_85 : decode cX8_year 85 = .ok (.ifCond .ne 14, 3) := by decide +kernel
theorem dX8_year_88 : decode cX8_year 88 = .ok (.aload_n 0, 1) := by decide +kernel
theorem dX8_year_89 : decode cX8_year 89 = .ok (.getfield 33, 3) := by decide +kernel
theorem dX8_year_92 : decode cX8_year 92 = .ok (.getfield 127, 3) := by decide +kernel
theorem dX8_year_95 : decode cX8_year 95 = .ok (.invokevirtual 141, 3) := by decide +kernel
theorem dX8_year_98 : decode cX8_year 98 = .ok (.ireturn, 1) := by decide +kernel
theorem dX8_year_99 : decode cX8_year 99 = .ok (.iload_n 3, 1) := by decide +kernel
theorem dX8_year_100 : decode cX8_year 100 = .ok (.iconst 1, 1) := by decide +kernel
theorem dX8_year_101 : decode cX8_year 101 = .ok (.if_icmp .ne 19, 3) := by decide +kernel
theorem dX8_year_104 : decode cX8_year 104 = .ok (.aload_n 0, 1) := by decide +kernel
theorem dX8_year_105 : decode cX8_year 105 = .ok (.getfield 33, 3) := by decide +kernel
theorem dX8_year_108 : decode cX8_year 108 = .ok (.getfield 127, 3) := by decide +kernel
theorem dX8_year_111 : decode cX8_year 111 = .ok (.invokevirtual 255, 3) := by decide +kernel
theorem dX8_year_114 : decode cX8_year 114 = .ok (.invokestatic 80, 3) := by decide +kernel
theorem dX8_year_117 : decode cX8_year 117 = .ok (.goto 13, 3) := by decide +kernel
theorem dX8_year_120 : decode cX8_year 120 = .ok (.aload_n 0, 1) := by decide +kernel
theorem dX8_year_121 : decode cX8_year 121 = .ok (.getfield 33, 3) := by decide +kernel
theorem dX8_year_124 : decode cX8_year 124 = .ok (.getfield 127, 3) := by decide +kernel
theorem dX8_year_127 : decode cX8_year 127 = .ok (.getfield 144, 3) := by decide +kernel
theorem dX8_year_130 : decode cX8_year 130 = .ok (.ireturn, 1) := by decide +kernel
theorem dX8_image_0 : decode cX8_image 0 = .ok (.iload_n 1, 1) := by decide +kernel
theorem dX8_image_1 : decode cX8_image 1 = .ok (.iconst 0, 1) := by decide +kernel
theorem dX8_image_2 : decode cX8_image 2 = .ok (.iconst 1, 1) := by decide +kernel
theorem dX8_image_3 : decode cX8_image 3 = .ok (.invokestatic 68, 3) := by decide +kernel
theorem dX8_image_6 : decode cX8_image 6 = .ok (.ifCond .ne 6, 3) := by decide +kernel
theorem dX8_image_9 : decode cX8_image 9 = .ok (.bipush (-2), 2) := by decide +kernel
theorem dX8_image_11 : decode cX8_image 11 = .ok (.ireturn, 1) := by decide +kernel
theorem dX8_image_12 : decode cX8_image 12 = .ok (.iload_n 1, 1) := by decide +kernel
theorem dX8_image_13 : decode cX8_image 13 = .ok (.ifCond .ne 10, 3) := by decide +kernel
theorem dX8_image_16 : decode cX8_image 16 = .ok (.aload_n 0, 1) := by decide +kernel
theorem dX8_image_17 : decode cX8_image 17 = .ok (.getfield 61, 3) := by decide +kernel
theorem dX8_image_20 : decode cX8_image 20 = .ok (.goto 7, 3) := by decide +kernel
theorem dX8_image_23 : decode cX8_image 23 = .ok (.aload_n 0, 1) := by decide +kernel
theorem dX8_image_24 : decode cX8_image 24 = .ok (.getfield 65, 3) := by decide +kernel
theorem dX8_image_27 : decode cX8_image 27 = .ok (.astore_n 2, 1) := by decide +kernel
theorem dX8_image_28 : decode cX8_image 28 = .ok (.aload_n 2, 1) := by decide +kernel
theorem dX8_image_29 : decode cX8_image 29 = .ok (.getfield 258, 3) := by decide +kernel
theorem dX8_image_32 : decode cX8_image 32 = .ok (.aload_n 0, 1) := by decide +kernel
theorem dX8_image_33 : decode cX8_image 33 = .ok (.getfield 10, 3) := by decide +kernel
theorem dX8_image_36 : decode cX8_image 36 = .ok (.invokevirtual 153, 3) := by decide +kernel
theorem dX8_image_39 : decode cX8_image 39 = .ok (.aload_n 2, 1) := by decide +kernel
theorem dX8_image_40 : decode cX8_image 40 = .ok (.getfield 259, 3) := by decide +kernel
theorem dX8_image_43 : decode cX8_image 43 = .ok (.aload_n 0, 1) := by decide +kernel
theorem dX8_image_44 : decode cX8_image 44 = .ok (.getfield 19, 3) := by decide +kernel
theorem dX8_image_47 : decode cX8_image 47 = .ok (.invokevirtual 260, 3) := by decide +kernel
theorem dX8_image_50 : decode cX8_image 50 = .ok (.aload_n 2, 1) := by decide +kernel
theorem dX8_image_51 : decode cX8_image 51 = .ok (.iconst 1, 1) := by decide +kernel
theorem dX8_image_52 : decode cX8_image 52 = .ok (.putfield 263, 3) := by decide +kernel
theorem dX8_image_55 : decode cX8_image 55 = .ok (.iconst 1, 1) := by decide +kernel
theorem dX8_image_56 : decode cX8_image 56 = .ok (.ireturn, 1) := by decide +kernel
theorem dX8_restore_0 : decode cX8_restore 0 = .ok (.iload_n 1, 1) := by decide +kernel
theorem dX8_restore_1 : decode cX8_restore 1 = .ok (.iconst 0, 1) := by decide +kernel
theorem dX8_restore_2 : decode cX8_restore 2 = .ok (.iconst 1, 1) := by decide +kernel
theorem dX8_restore_3 : decode cX8_restore 3 = .ok (.invokestatic 68, 3) := by decide +kernel
theorem dX8_restore_6 : decode cX8_restore 6 = .ok (.ifCond .ne 6, 3) := by decide +kernel
theorem dX8_restore_9 : decode cX8_restore 9 = .ok (.bipush (-2), 2) := by decide +kernel
theorem dX8_restore_11 : decode cX8_restore 11 = .ok (.ireturn, 1) := by decide +kernel
theorem dX8_restore_12 : decode cX8_restore 12 = .ok (.iload_n 1, 1) := by decide +kernel
theorem dX8_restore_13 : decode cX8_restore 13 = .ok (.ifCond .ne 10, 3) := by decide +kernel
theorem dX8_restore_16 : decode cX8_restore 16 = .ok (.aload_n 0, 1) := by decide +kernel
theorem dX8_restore_17 : decode cX8_restore 17 = .ok (.getfield 61, 3) := by decide +kernel
theorem dX8_restore_20 : decode cX8_restore 20 = .ok (.goto 7, 3) := by decide +kernel
theorem dX8_restore_23 : decode cX8_restore 23 = .ok (.aload_n 0, 1) := by decide +kernel
theorem dX8_restore_24 : decode cX8_restore 24 = .ok (.getfield 65, 3) := by decide +kernel
theorem dX8_restore_27 : decode cX8_restore 27 = .ok (.astore_n 2, 1) := by decide +kernel
theorem dX8_restore_28 : decode cX8_restore 28 = .ok (.aload_n 2, 1) := by decide +kernel
theorem dX8_restore_29 : decode cX8_restore 29 = .ok (.getfield 263, 3) := by decide +kernel
theorem dX8_restore_32 : decode cX8_restore 32 = .ok (.ifCond .ne 6, 3) := by decide +kernel
theorem dX8_restore_35 : decode cX8_restore 35 = .ok (.bipush (-3), 2) := by decide +kernel
theorem dX8_restore_37 : decode cX8_restore 37 = .ok (.ireturn, 1) := by decide +kernel
theorem dX8_restore_38 : decode cX8_restore 38 = .ok (.aload_n 0, 1) := by decide +kernel
theorem dX8_restore_39 : decode cX8_restore 39 = .ok (.getfield 10, 3) := by decide +kernel
theorem dX8_restore_42 : decode cX8_restore 42 = .ok (.aload_n 2, 1) := by decide +kernel
theorem dX8_restore_43 : decode cX8_restore 43 = .ok (.getfield 258, 3) := by decide +kernel
theorem dX8_restore_46 : decode cX8_restore 46 = .ok (.invokevirtual 153, 3) := by decide +kernel
theorem dX8_restore_49 : decode cX8_restore 49 = .ok (.aload_n 0, 1) := by decide +kernel
theorem dX8_restore_50 : decode cX8_restore 50 = .ok (.getfield 19, 3) := by decide +kernel
theorem dX8_restore_53 : decode cX8_restore 53 = .ok (.aload_n 2, 1) := by decide +kernel
theorem dX8_restore_54 : decode cX8_restore 54 = .ok (.getfield 259, 3) := by decide +kernel
theorem dX8_restore_57 : decode cX8_restore 57 = .ok (.invokevirtual 260, 3) := by decide +kernel
theorem dX8_restore_60 : decode cX8_restore 60 = .ok (.iconst 1, 1) := by decide +kernel
theorem dX8_restore_61 : decode cX8_restore 61 = .ok (.ireturn, 1) := by decide +kernel
theorem dX8_told_0 : decode cX8_told 0 = .ok (.iload_n 1, 1) := by decide +kernel
theorem dX8_told_1 : decode cX8_told 1 = .ok (.bipush 100, 2) := by decide +kernel
theorem dX8_told_3 : decode cX8_told 3 = .ok (.sipush 159, 3) := by decide +kernel
theorem dX8_told_6 : decode cX8_told 6 = .ok (.invokestatic 68, 3) := by decide +kernel
theorem dX8_told_9 : decode cX8_told 9 = .ok (.ifCond .eq 19, 3) := by decide +kernel
theorem dX8_told_12 : decode cX8_told 12 = .ok (.aload_n 0, 1) := by decide +kernel
theorem dX8_told_13 : decode cX8_told 13 = .ok (.iload_n 1, 1) := by decide +kernel
theorem dX8_told_14 : decode cX8_told 14 = .ok (.bipush 100, 2) := by decide +kernel
theorem dX8_told_16 : decode cX8_told 16 = .ok (.isub, 1) := by decide +kernel
theorem dX8_told_17 : decode cX8_told 17 = .ok (.bipush 10, 2) := by decide +kernel
theorem dX8_told_19 : decode cX8_told 19 = .ok (.idiv, 1) := by decide +kernel
theorem dX8_told_20 : decode cX8_told 20 = .ok (.iload_n 1, 1) := by decide +kernel
theorem dX8_told_21 : decode cX8_told 21 = .ok (.bipush 10, 2) := by decide +kernel
theorem dX8_told_23 : decode cX8_told 23 = .ok (.irem, 1) := by decide +kernel
theorem dX8_told_24 : decode cX8_told 24 = .ok (.invokevirtual 267, 3) := by decide +kernel
theorem dX8_told_27 : decode cX8_told 27 = .ok (.ireturn, 1) := by decide +kernel
theorem dX8_told_28 : decode cX8_told 28 = .ok (.iload_n 1, 1) := by decide +kernel
theorem dX8_told_29 : decode cX8_told 29 = .ok (.bipush 10, 2) := by decide +kernel
theorem dX8_told_31 : decode cX8_told 31 = .ok (.bipush 89, 2) := by decide +kernel
theorem dX8_told_33 : decode cX8_told 33 = .ok (.invokestatic 68, 3) := by decide +kernel
theorem dX8_told_36 : decode cX8_told 36 = .ok (.ifCond .eq 18, 3) := by decide +kernel
theorem dX8_told_39 : decode cX8_told 39 = .ok (.aload_n 0, 1) := by decide +kernel
theorem dX8_told_40 : decode cX8_told 40 = .ok (.iload_n 1, 1) := by decide +kernel
theorem dX8_told_41 : decode cX8_told 41 = .ok (.bipush 10, 2) := by decide +kernel
theorem dX8_told_43 : decode cX8_told 43 = .ok (.idiv, 1) := by decide +kernel
theorem dX8_told_44 : decode cX8_told 44 = .ok (.iconst 1, 1) := by decide +kernel
theorem dX8_told_45 : decode cX8_told 45 = .ok (.isub, 1) := by decide +kernel
theorem dX8_told_46 : decode cX8_told 46 = .ok (.iload_n 1, 1) := by decide +kernel
theorem dX8_told_47 : decode cX8_told 47 = .ok (.bipush 10, 2) := by decide +kernel
theorem dX8_told_49 : decode cX8_told 49 = .ok (.irem, 1) := by decide +kernel
theorem dX8_told_50 : decode cX8_told 50 = .ok (.invokevirtual 270, 3) := by decide +kernel
theorem dX8_told_53 : decode cX8_told 53 = .ok (.ireturn, 1) := by decide +kernel
theorem dX8_told_54 : decode cX8_told 54 = .ok (.iload_n 1, 1) := by decide +kernel
theorem dX8_told_55 : decode cX8_told 55 = .ok (.tableswitch 61 0 3 #[29, 37, 45, 53], 29) := by decide +kernel
theorem dX8_told_84 : decode cX8_told 84 = .ok (.aload_n 0, 1) := by decide +kernel
theorem dX8_told_85 : decode cX8_told 85 = .ok (.getfield 26, 3) := by decide +kernel
theorem dX8_told_88 : decode cX8_told 88 = .ok (.getfield 107, 3) := by decide +kernel
theorem dX8_told_91 : decode cX8_told 91 = .ok (.ireturn, 1) := by decide +kernel
theorem dX8_told_92 : decode cX8_told 92 = .ok (.aload_n 0, 1) := by decide +kernel
theorem dX8_told_93 : decode cX8_told 93 = .ok (.getfield 10, 3) := by decide +kernel
theorem dX8_told_96 : decode cX8_told 96 = .ok (.getfield 76, 3) := by decide +kernel
theorem dX8_told_99 : decode cX8_told 99 = .ok (.ireturn, 1) := by decide +kernel
theorem dX8_told_100 : decode cX8_told 100 = .ok (.aload_n 0, 1) := by decide +kernel
theorem dX8_told_101 : decode cX8_told 101 = .ok (.getfield 10, 3) := by decide +kernel
theorem dX8_told_104 : decode cX8_told 104 = .ok (.getfield 273, 3) := by decide +kernel
theorem dX8_told_107 : decode cX8_told 107 = .ok (.ireturn, 1) := by decide +kernel
theorem dX8_told_108 : decode cX8_told 108 = .ok (.aload_n 0, 1) := by decide +kernel
theorem dX8_told_109 : decode cX8_told 109 = .ok (.getfield 19, 3) := by decide +kernel
theorem dX8_told_112 : decode cX8_told 112 = .ok (.getfield 213, 3) := by decide +kernel
theorem dX8_told_115 : decode cX8_told 115 = .ok (.ireturn, 1) := by decide +kernel
theorem dX8_told_116 : decode cX8_told 116 = .ok (.bipush (-2), 2) := by decide +kernel
theorem dX8_told_118 : decode cX8_told 118 = .ok (.ireturn, 1) := by decide +kernel
theorem dX8_tellSinger_0 : decode cX8_tellSinger 0 = .ok (.aload_n 0, 1) := by decide +kernel
theorem dX8_tellSinger_1 : decode cX8_tellSinger 1 = .ok (.getfield 10, 3) := by decide +kernel
theorem dX8_tellSinger_4 : decode cX8_tellSinger 4 = .ok (.iload_n 1, 1) := by decide +kernel
theorem dX8_tellSinger_5 : decode cX8_tellSinger 5 = .ok (.invokevirtual 86, 3) := by decide +kernel
theorem dX8_tellSinger_8 : decode cX8_tellSinger 8 = .ok (.ifCond .ne 6, 3) := by decide +kernel
theorem dX8_tellSinger_11 : decode cX8_tellSinger 11 = .ok (.bipush (-2), 2) := by decide +kernel
theorem dX8_tellSinger_13 : decode cX8_tellSinger 13 = .ok (.ireturn, 1) := by decide +kernel
theorem dX8_tellSinger_14 : decode cX8_tellSinger 14 = .ok (.iload_n 2, 1) := by decide +kernel
theorem dX8_tellSinger_15 : decode cX8_tellSinger 15 = .ok (.tableswitch 71 0 3 #[29, 38, 47, 59], 29) := by decide +kernel
theorem dX8_tellSinger_44 : decode cX8_tellSinger 44 = .ok (.aload_n 0, 1) := by decide +kernel
theorem dX8_tellSinger_45 : decode cX8_tellSinger 45 = .ok (.getfield 10, 3) := by decide +kernel
theorem dX8_tellSinger_48 : decode cX8_tellSinger 48 = .ok (.iload_n 1, 1) := by decide +kernel
theorem dX8_tellSinger_49 : decode cX8_tellSinger 49 = .ok (.invokevirtual 276, 3) := by decide +kernel
theorem dX8_tellSinger_52 : decode cX8_tellSinger 52 = .ok (.ireturn, 1) := by decide +kernel
theorem dX8_tellSinger_53 : decode cX8_tellSinger 53 = .ok (.aload_n 0, 1) := by decide +kernel
theorem dX8_tellSinger_54 : decode cX8_tellSinger 54 = .ok (.getfield 10, 3) := by decide +kernel
theorem dX8_tellSinger_57 : decode cX8_tellSinger 57 = .ok (.iload_n 1, 1) := by decide +kernel
theorem dX8_tellSinger_58 : decode cX8_tellSinger 58 = .ok (.invokevirtual 128, 3) := by decide +kernel
theorem dX8_tellSinger_61 : decode cX8_tellSinger 61 = .ok (.ireturn, 1) := by decide +kernel
theorem dX8_tellSinger_62 : decode cX8_tellSinger 62 = .ok (.aload_n 0, 1) := by decide +kernel
theorem dX8_tellSinger_63 : decode cX8_tellSinger 63 = .ok (.getfield 10, 3) := by decide +kernel
theorem dX8_tellSinger_66 : decode cX8_tellSinger 66 = .ok (.getfield 131, 3) := by decide +kernel
theorem dX8_tellSinger_69 : decode cX8_tellSinger 69 = .ok (.iload_n 1, 1) := by decide +kernel
theorem dX8_tellSinger_70 : decode cX8_tellSinger 70 = .ok (.invokestatic 137, 3) := by decide +kernel
theorem dX8_tellSinger_73 : decode cX8_tellSinger 73 = .ok (.ireturn, 1) := by decide +kernel
theorem dX8_tellSinger_74 : decode cX8_tellSinger 74 = .ok (.aload_n 0, 1) := by decide +kernel
theorem dX8_tellSinger_75 : decode cX8_tellSinger 75 = .ok (.getfield 10, 3) := by decide +kernel
theorem dX8_tellSinger_78 : decode cX8_tellSinger 78 = .ok (.getfield 134, 3) := by decide +kernel
theorem dX8_tellSinger_81 : decode cX8_tellSinger 81 = .ok (.iload_n 1, 1) := by decide +kernel
theorem dX8_tellSinger_82 : decode cX8_tellSinger 82 = .ok (.invokestatic 137, 3) := by decide +kernel
theorem dX8_tellSinger_85 : decode cX8_tellSinger 85 = .ok (.ireturn, 1) := by decide +kernel
theorem dX8_tellSinger_86 : decode cX8_tellSinger 86 = .ok (.bipush (-2), 2) := by decide +kernel
theorem dX8_tellSinger_88 : decode cX8_tellSinger 88 = .ok (.ireturn, 1) := by decide +kernel
theorem dX8_tellPiece_0 : decode cX8_tellPiece 0 = .ok (.iload_n 2, 1) := by decide +kernel
theorem dX8_tellPiece_1 : decode cX8_tellPiece 1 = .ok (.iconst 0, 1) := by decide +kernel
theorem dX8_tellPiece_2 : decode cX8_tellPiece 2 = .ok (.iconst 3, 1) := by decide +kernel
theorem dX8_tellPiece_3 : decode cX8_tellPiece 3 = .ok (.invokestatic 68, 3) := by decide +kernel
theorem dX8_tellPiece_6 : decode cX8_tellPiece 6 = .ok (.ifCond .eq 13, 3) := by decide +kernel
theorem dX8_tellPiece_9 : decode cX8_tellPiece 9 = .ok (.aload_n 0, 1) := by decide +kernel
theorem dX8_tellPiece_10 : decode cX8_tellPiece 10 = .ok (.getfield 10, 3) := by decide +kernel
theorem dX8_tellPiece_13 : decode cX8_tellPiece 13 = .ok (.iload_n 1, 1) := by decide +kernel
theorem dX8_tellPiece_14 : decode cX8_tellPiece 14 = .ok (.iload_n 2, 1) := by decide +kernel
theorem dX8_tellPiece_15 : decode cX8_tellPiece 15 = .ok (.invokevirtual 179, 3) := by decide +kernel
theorem dX8_tellPiece_18 : decode cX8_tellPiece 18 = .ok (.ireturn, 1) := by decide +kernel
theorem dX8_tellPiece_19 : decode cX8_tellPiece 19 = .ok (.iload_n 2, 1) := by decide +kernel
theorem dX8_tellPiece_20 : decode cX8_tellPiece 20 = .ok (.iconst 4, 1) := by decide +kernel
theorem dX8_tellPiece_21 : decode cX8_tellPiece 21 = .ok (.if_icmp .ne 12, 3) := by decide +kernel
theorem dX8_tellPiece_24 : decode cX8_tellPiece 24 = .ok (.aload_n 0, 1) := by decide +kernel
theorem dX8_tellPiece_25 : decode cX8_tellPiece 25 = .ok (.getfield 10, 3) := by decide +kernel
theorem dX8_tellPiece_28 : decode cX8_tellPiece 28 = .ok (.iload_n 1, 1) := by decide +kernel
theorem dX8_tellPiece_29 : decode cX8_tellPiece 29 = .ok (.invokevirtual 97, 3) := by decide +kernel
theorem dX8_tellPiece_32 : decode cX8_tellPiece 32 = .ok (.ireturn, 1) := by decide +kernel
theorem dX8_tellPiece_33 : decode cX8_tellPiece 33 = .ok (.iload_n 2, 1) := by decide +kernel
theorem dX8_tellPiece_34 : decode cX8_tellPiece 34 = .ok (.iconst 5, 1) := by decide +kernel
theorem dX8_tellPiece_35 : decode cX8_tellPiece 35 = .ok (.if_icmp .ne 14, 3) := by decide +kernel
theorem dX8_tellPiece_38 : decode cX8_tellPiece 38 = .ok (.aload_n 0, 1) := by decide +kernel
theorem dX8_tellPiece_39 : decode cX8_tellPiece 39 = .ok (.getfield 10, 3) := by decide +kernel
theorem dX8_tellPiece_42 : decode cX8_tellPiece 42 = .ok (.iload_n 1, 1) := by decide +kernel
theorem dX8_tellPiece_43 : decode cX8_tellPiece 43 = .ok (.invokevirtual 279, 3) := by decide +kernel
theorem dX8_tellPiece_46 : decode cX8_tellPiece 46 = .ok (.goto 5, 3) := by decide +kernel
theorem dX8_tellPiece_49 : decode cX8_tellPiece 49 = .ok (.bipush (-2), 2) := by decide +kernel
theorem dX8_tellPiece_51 : decode cX8_tellPiece 51 = .ok (.ireturn, 1) := by decide +kernel
theorem dX8_placeOfBid_0 : decode cX8_placeOfBid 0 = .ok (.iload_n 0, 1) := by decide +kernel
theorem dX8_placeOfBid_1 : decode cX8_placeOfBid 1 = .ok (.iconst 5, 1) := by decide +kernel
theorem dX8_placeOfBid_2 : decode cX8_placeOfBid 2 = .ok (.iload_n 1, 1) := by decide +kernel
theorem dX8_placeOfBid_3 : decode cX8_placeOfBid 3 = .ok (.isub, 1) := by decide +kernel
theorem dX8_placeOfBid_4 : decode cX8_placeOfBid 4 = .ok (.invokestatic 192, 3) := by decide +kernel
theorem dX8_placeOfBid_7 : decode cX8_placeOfBid 7 = .ok (.istore_n 2, 1) := by decide +kernel
theorem dX8_placeOfBid_8 : decode cX8_placeOfBid 8 = .ok (.iconst 0, 1) := by decide +kernel
theorem dX8_placeOfBid_9 : decode cX8_placeOfBid 9 = .ok (.istore_n 3, 1) := by decide +kernel
theorem dX8_placeOfBid_10 : decode cX8_placeOfBid 10 = .ok (.iconst 0, 1) := by decide +kernel
theorem dX8_placeOfBid_11 : decode cX8_placeOfBid 11 = .ok (.istore 4, 2) := by decide +kernel
theorem dX8_placeOfBid_13 : decode cX8_placeOfBid 13 = .ok (.iload 4, 2) := by decide +kernel
theorem dX8_placeOfBid_15 : decode cX8_placeOfBid 15 = .ok (.bipush 6, 2) := by decide +kernel
theorem dX8_placeOfBid_17 : decode cX8_placeOfBid 17 = .ok (.if_icmp .ge 40, 3) := by decide +kernel
theorem dX8_placeOfBid_20 : decode cX8_placeOfBid 20 = .ok (.iload_n 0, 1) := by decide +kernel
theorem dX8_placeOfBid_21 : decode cX8_placeOfBid 21 = .ok (.iconst 5, 1) := by decide +kernel
theorem dX8_placeOfBid_22 : decode cX8_placeOfBid 22 = .ok (.iload 4, 2) := by decide +kernel
theorem dX8_placeOfBid_24 : decode cX8_placeOfBid 24 = .ok (.isub, 1) := by decide +kernel
theorem dX8_placeOfBid_25 : decode cX8_placeOfBid 25 = .ok (.invokestatic 192, 3) := by decide +kernel
theorem dX8_placeOfBid_28 : decode cX8_placeOfBid 28 = .ok (.istore 5, 2) := by decide +kernel
theorem dX8_placeOfBid_30 : decode cX8_placeOfBid 30 = .ok (.iload 5, 2) := by decide +kernel
theorem dX8_placeOfBid_32 : decode cX8_placeOfBid 32 = .ok (.iload_n 2, 1) := by decide +kernel
theorem dX8_placeOfBid_33 : decode cX8_placeOfBid 33 = .ok (.if_icmp .gt 15, 3) := by decide +kernel
theorem dX8_placeOfBid_36 : decode cX8_placeOfBid 36 = .ok (.iload 5, 2) := by decide +kernel
theorem dX8_placeOfBid_38 : decode cX8_placeOfBid 38 = .ok (.iload_n 2, 1) := by decide +kernel
theorem dX8_placeOfBid_39 : decode cX8_placeOfBid 39 = .ok (.if_icmp .ne 12, 3) := by decide +kernel
theorem dX8_placeOfBid_42 : decode cX8_placeOfBid 42 = .ok (.iload 4, 2) := by decide +kernel
theorem dX8_placeOfBid_44 : decode cX8_placeOfBid 44 = .ok (.iload_n 1, 1) := by decide +kernel
theorem dX8_placeOfBid_45 : decode cX8_placeOfBid 45 = .ok (.if_icmp .ge 6, 3) := by decide +kernel
theorem dX8_placeOfBid_48 : decode cX8_placeOfBid 48 = .ok (.iinc 3 1, 3) := by decide +kernel
theorem dX8_placeOfBid_51 : decode cX8_placeOfBid 51 = .ok (.iinc 4 1, 3) := by decide +kernel
theorem dX8_placeOfBid_54 : decode cX8_placeOfBid 54 = .ok (.goto (-41), 3) := by decide +kernel
theorem dX8_placeOfBid_57 : decode cX8_placeOfBid 57 = .ok (.iload_n 3, 1) := by decide +kernel
theorem dX8_placeOfBid_58 : decode cX8_placeOfBid 58 = .ok (.ireturn, 1) := by decide +kernel
theorem dX8_areNeeds_0 : decode cX8_areNeeds 0 = .ok (.iload_n 0, 1) := by decide +kernel
theorem dX8_areNeeds_1 : decode cX8_areNeeds 1 = .ok (.iconst 0, 1) := by decide +kernel
theorem dX8_areNeeds_2 : decode cX8_areNeeds 2 = .ok (.sipush 9999, 3) := by decide +kernel
theorem dX8_areNeeds_5 : decode cX8_areNeeds 5 = .ok (.invokestatic 68, 3) := by decide +kernel
theorem dX8_areNeeds_8 : decode cX8_areNeeds 8 = .ok (.ifCond .ne 5, 3) := by decide +kernel
theorem dX8_areNeeds_11 : decode cX8_areNeeds 11 = .ok (.iconst 0, 1) := by decide +kernel
theorem dX8_areNeeds_12 : decode cX8_areNeeds 12 = .ok (.ireturn, 1) := by decide +kernel
theorem dX8_areNeeds_13 : decode cX8_areNeeds 13 = .ok (.iconst 0, 1) := by decide +kernel
theorem dX8_areNeeds_14 : decode cX8_areNeeds 14 = .ok (.istore_n 1, 1) := by decide +kernel
theorem dX8_areNeeds_15 : decode cX8_areNeeds 15 = .ok (.iload_n 1, 1) := by decide +kernel
theorem dX8_areNeeds_16 : decode cX8_areNeeds 16 = .ok (.iconst 4, 1) := by decide +kernel
theorem dX8_areNeeds_17 : decode cX8_areNeeds 17 = .ok (.if_icmp .ge 20, 3) := by decide +kernel
theorem dX8_areNeeds_20 : decode cX8_areNeeds 20 = .ok (.iload_n 0, 1) := by decide +kernel
theorem dX8_areNeeds_21 : decode cX8_areNeeds 21 = .ok (.iload_n 1, 1) := by decide +kernel
theorem dX8_areNeeds_22 : decode cX8_areNeeds 22 = .ok (.invokestatic 192, 3) := by decide +kernel
theorem dX8_areNeeds_25 : decode cX8_areNeeds 25 = .ok (.iconst 3, 1) := by decide +kernel
theorem dX8_areNeeds_26 : decode cX8_areNeeds 26 = .ok (.if_icmp .le 5, 3) := by decide +kernel
theorem dX8_areNeeds_29 : decode cX8_areNeeds 29 = .ok (.iconst 0, 1) := by decide +kernel
theorem dX8_areNeeds_30 : decode cX8_areNeeds 30 = .ok (.ireturn, 1) := by decide +kernel
theorem dX8_areNeeds_31 : decode cX8_areNeeds 31 = .ok (.iinc 1 1, 3) := by decide +kernel
theorem dX8_areNeeds_34 : decode cX8_areNeeds 34 = .ok (.goto (-19), 3) := by decide +kernel
theorem dX8_areNeeds_37 : decode cX8_areNeeds 37 = .ok (.iconst 1, 1) := by decide +kernel
theorem dX8_areNeeds_38 : decode cX8_areNeeds 38 = .ok (.ireturn, 1) := by decide +kernel
theorem dX8_areRanks_0 : decode cX8_areRanks 0 = .ok (.iload_n 0, 1) := by decide +kernel
theorem dX8_areRanks_1 : decode cX8_areRanks 1 = .ok (.iconst 0, 1) := by decide +kernel
theorem dX8_areRanks_2 : decode cX8_areRanks 2 = .ok (.sipush 9999, 3) := by decide +kernel
theorem dX8_areRanks_5 : decode cX8_areRanks 5 = .ok (.invokestatic 68, 3) := by decide +kernel
theorem dX8_areRanks_8 : decode cX8_areRanks 8 = .ok (.ifCond .ne 5, 3) := by decide +kernel
theorem dX8_areRanks_11 : decode cX8_areRanks 11 = .ok (.iconst 0, 1) := by decide +kernel
theorem dX8_areRanks_12 : decode cX8_areRanks 12 = .ok (.ireturn, 1) := by decide +kernel
theorem dX8_areRanks_13 : decode cX8_areRanks 13 = .ok (.iconst 0, 1) := by decide +kernel
theorem dX8_areRanks_14 : decode cX8_areRanks 14 = .ok (.istore_n 1, 1) := by decide +kernel
theorem dX8_areRanks_15 : decode cX8_areRanks 15 = .ok (.iconst 0, 1) := by decide +kernel
theorem dX8_areRanks_16 : decode cX8_areRanks 16 = .ok (.istore_n 2, 1) := by decide +kernel
theorem dX8_areRanks_17 : decode cX8_areRanks 17 = .ok (.iload_n 2, 1) := by decide +kernel
theorem dX8_areRanks_18 : decode cX8_areRanks 18 = .ok (.iconst 4, 1) := by decide +kernel
theorem dX8_areRanks_19 : decode cX8_areRanks 19 = .ok (.if_icmp .ge 19, 3) := by decide +kernel
theorem dX8_areRanks_22 : decode cX8_areRanks 22 = .ok (.iload_n 1, 1) := by decide +kernel
theorem dX8_areRanks_23 : decode cX8_areRanks 23 = .ok (.iconst 1, 1) := by decide +kernel
theorem dX8_areRanks_24 : decode cX8_areRanks 24 = .ok (.iload_n 0, 1) := by decide +kernel
theorem dX8_areRanks_25 : decode cX8_areRanks 25 = .ok (.iload_n 2, 1) := by decide +kernel
theorem dX8_areRanks_26 : decode cX8_areRanks 26 = .ok (.invokestatic 192, 3) := by decide +kernel
theorem dX8_areRanks_29 : decode cX8_areRanks 29 = .ok (.ishl, 1) := by decide +kernel
theorem dX8_areRanks_30 : decode cX8_areRanks 30 = .ok (.ior, 1) := by decide +kernel
theorem dX8_areRanks_31 : decode cX8_areRanks 31 = .ok (.istore_n 1, 1) := by decide +kernel
theorem dX8_areRanks_32 : decode cX8_areRanks 32 = .ok (.iinc 2 1, 3) := by decide +kernel
theorem dX8_areRanks_35 : decode cX8_areRanks 35 = .ok (.goto (-18), 3) := by decide +kernel
theorem dX8_areRanks_38 : decode cX8_areRanks 38 = .ok (.iload_n 1, 1) := by decide +kernel
theorem dX8_areRanks_39 : decode cX8_areRanks 39 = .ok (.bipush 15, 2) := by decide +kernel
theorem dX8_areRanks_41 : decode cX8_areRanks 41 = .ok (.if_icmp .ne 7, 3) := by decide +kernel
theorem dX8_areRanks_44 : decode cX8_areRanks 44 = .ok (.iconst 1, 1) := by decide +kernel
theorem dX8_areRanks_45 : decode cX8_areRanks 45 = .ok (.goto 4, 3) := by decide +kernel
theorem dX8_areRanks_48 : decode cX8_areRanks 48 = .ok (.iconst 0, 1) := by decide +kernel
theorem dX8_areRanks_49 : decode cX8_areRanks 49 = .ok (.ireturn, 1) := by decide +kernel
theorem dX8_digitOf_0 : decode cX8_digitOf 0 = .ok (.iload_n 0, 1) := by decide +kernel
theorem dX8_digitOf_1 : decode cX8_digitOf 1 = .ok (.istore_n 2, 1) := by decide +kernel
theorem dX8_digitOf_2 : decode cX8_digitOf 2 = .ok (.iconst 0, 1) := by decide +kernel
theorem dX8_digitOf_3 : decode cX8_digitOf 3 = .ok (.istore_n 3, 1) := by decide +kernel
theorem dX8_digitOf_4 : decode cX8_digitOf 4 = .ok (.iload_n 3, 1) := by decide +kernel
theorem dX8_digitOf_5 : decode cX8_digitOf 5 = .ok (.iload_n 1, 1) := by decide +kernel
theorem dX8_digitOf_6 : decode cX8_digitOf 6 = .ok (.if_icmp .ge 14, 3) := by decide +kernel
theorem dX8_digitOf_9 : decode cX8_digitOf 9 = .ok (.iload_n 2, 1) := by decide +kernel
theorem dX8_digitOf_10 : decode cX8_digitOf 10 = .ok (.bipush 10, 2) := by decide +kernel
theorem dX8_digitOf_12 : decode cX8_digitOf 12 = .ok (.idiv, 1) := by decide +kernel
theorem dX8_digitOf_13 : decode cX8_digitOf 13 = .ok (.istore_n 2, 1) := by decide +kernel
theorem dX8_digitOf_14 : decode cX8_digitOf 14 = .ok (.iinc 3 1, 3) := by decide +kernel
theorem dX8_digitOf_17 : decode cX8_digitOf 17 = .ok (.goto (-13), 3) := by decide +kernel
theorem dX8_digitOf_20 : decode cX8_digitOf 20 = .ok (.iload_n 2, 1) := by decide +kernel
theorem dX8_digitOf_21 : decode cX8_digitOf 21 = .ok (.bipush 10, 2) := by decide +kernel
theorem dX8_digitOf_23 : decode cX8_digitOf 23 = .ok (.irem, 1) := by decide +kernel
theorem dX8_digitOf_24 : decode cX8_digitOf 24 = .ok (.ireturn, 1) := by decide +kernel
theorem dX8_within_0 : decode cX8_within 0 = .ok (.iload_n 0, 1) := by decide +kernel
theorem dX8_within_1 : decode cX8_within 1 = .ok (.iload_n 1, 1) := by decide +kernel
theorem dX8_within_2 : decode cX8_within 2 = .ok (.if_icmp .lt 12, 3) := by decide +kernel
theorem dX8_within_5 : decode cX8_within 5 = .ok (.iload_n 0, 1) := by decide +kernel
theorem dX8_within_6 : decode cX8_within 6 = .ok (.iload_n 2, 1) := by decide +kernel
theorem dX8_within_7 : decode cX8_within 7 = .ok (.if_icmp .gt 7, 3) := by decide +kernel
theorem dX8_within_10 : decode cX8_within 10 = .ok (.iconst 1, 1) := by decide +kernel
theorem dX8_within_11 : decode cX8_within 11 = .ok (.goto 4, 3) := by decide +kernel
theorem dX8_within_14 : decode cX8_within 14 = .ok (.iconst 0, 1) := by decide +kernel
theorem dX8_within_15 : decode cX8_within 15 = .ok (.ireturn, 1) := by decide +kernel
theorem dX8_bit_0 : decode cX8_bit 0 = .ok (.iload_n 0, 1) := by decide +kernel
theorem dX8_bit_1 : decode cX8_bit 1 = .ok (.iload_n 1, 1) := by decide +kernel
theorem dX8_bit_2 : decode cX8_bit 2 = .ok (.ishr, 1) := by decide +kernel
theorem dX8_bit_3 : decode cX8_bit 3 = .ok (.iconst 1, 1) := by decide +kernel
theorem dX8_bit_4 : decode cX8_bit 4 = .ok (.iand, 1) := by decide +kernel
theorem dX8_bit_5 : decode cX8_bit 5 = .ok (.ireturn, 1) := by decide +kernel
theorem dX8_commonDivisor_0 : decode cX8_commonDivisor 0 = .ok (.lload_n 0, 1) := by decide +kernel
theorem dX8_commonDivisor_1 : decode cX8_commonDivisor 1 = .ok (.invokestatic 282, 3) := by decide +kernel
theorem dX8_commonDivisor_4 : decode cX8_commonDivisor 4 = .ok (.lstore 4, 2) := by decide +kernel
theorem dX8_commonDivisor_6 : decode cX8_commonDivisor 6 = .ok (.lload_n 2, 1) := by decide +kernel
theorem dX8_commonDivisor_7 : decode cX8_commonDivisor 7 = .ok (.invokestatic 282, 3) := by decide +kernel
theorem dX8_commonDivisor_10 : decode cX8_commonDivisor 10 = .ok (.lstore 6, 2) := by decide +kernel
theorem dX8_commonDivisor_12 : decode cX8_commonDivisor 12 = .ok (.iconst 0, 1) := by decide +kernel
theorem dX8_commonDivisor_13 : decode cX8_commonDivisor 13 = .ok (.istore 8, 2) := by decide +kernel
theorem dX8_commonDivisor_15 : decode cX8_commonDivisor 15 = .ok (.iload 8, 2) := by decide +kernel
theorem dX8_commonDivisor_17 : decode cX8_commonDivisor 17 = .ok (.sipush 1000, 3) := by decide +kernel
theorem dX8_commonDivisor_20 : decode cX8_commonDivisor 20 = .ok (.if_icmp .ge 31, 3) := by decide +kernel
theorem dX8_commonDivisor_23 : decode cX8_commonDivisor 23 = .ok (.lload 6, 2) := by decide +kernel
theorem dX8_commonDivisor_25 : decode cX8_commonDivisor 25 = .ok (.lconst 0, 1) := by decide +kernel
theorem dX8_commonDivisor_26 : decode cX8_commonDivisor 26 = .ok (.lcmp, 1) := by decide +kernel
theorem dX8_commonDivisor_27 : decode cX8_commonDivisor 27 = .ok (.ifCond .eq 24, 3) := by decide +kernel
theorem dX8_commonDivisor_30 : decode cX8_commonDivisor 30 = .ok (.lload 4, 2) := by decide +kernel
theorem dX8_commonDivisor_32 : decode cX8_commonDivisor 32 = .ok (.lload 6, 2) := by decide +kernel
theorem dX8_commonDivisor_34 : decode cX8_commonDivisor 34 = .ok (.lrem, 1) := by decide +kernel
theorem dX8_commonDivisor_35 : decode cX8_commonDivisor 35 = .ok (.lstore 9, 2) := by decide +kernel
theorem dX8_commonDivisor_37 : decode cX8_commonDivisor 37 = .ok (.lload 6, 2) := by decide +kernel
theorem dX8_commonDivisor_39 : decode cX8_commonDivisor 39 = .ok (.lstore 4, 2) := by decide +kernel
theorem dX8_commonDivisor_41 : decode cX8_commonDivisor 41 = .ok (.lload 9, 2) := by decide +kernel
theorem dX8_commonDivisor_43 : decode cX8_commonDivisor 43 = .ok (.lstore 6, 2) := by decide +kernel
theorem dX8_commonDivisor_45 : decode cX8_commonDivisor 45 = .ok (.iinc 8 1, 3) := by decide +kernel
theorem dX8_commonDivisor_48 : decode cX8_commonDivisor 48 = .ok (.goto (-33), 3) := by decide +kernel
theorem dX8_commonDivisor_51 : decode cX8_commonDivisor 51 = .ok (.lconst 1, 1) := by decide +kernel
theorem dX8_commonDivisor_52 : decode cX8_commonDivisor 52 = .ok (.lload 4, 2) := by decide +kernel
theorem dX8_commonDivisor_54 : decode cX8_commonDivisor 54 = .ok (.invokestatic 288, 3) := by decide +kernel
theorem dX8_commonDivisor_57 : decode cX8_commonDivisor 57 = .ok (.lreturn, 1) := by decide +kernel
theorem dJ6_bitCount_0f7a4_0 : decode cJ6_bitCount_0f7a4 0 = .ok (.iload_n 0, 1) := by decide +kernel
theorem dJ6_bitCount_0f7a4_1 : decode cJ6_bitCount_0f7a4 1 = .ok (.iload_n 0, 1) := by decide +kernel
theorem dJ6_bitCount_0f7a4_2 : decode cJ6_bitCount_0f7a4 2 = .ok (.iconst 1, 1) := by decide +kernel
theorem dJ6_bitCount_0f7a4_3 : decode cJ6_bitCount_0f7a4 3 = .ok (.iushr, 1) := by decide +kernel
theorem dJ6_bitCount_0f7a4_4 : decode cJ6_bitCount_0f7a4 4 = .ok (.ldc_w 265, 3) := by decide +kernel
theorem dJ6_bitCount_0f7a4_7 : decode cJ6_bitCount_0f7a4 7 = .ok (.iand, 1) := by decide +kernel
theorem dJ6_bitCount_0f7a4_8 : decode cJ6_bitCount_0f7a4 8 = .ok (.isub, 1) := by decide +kernel
theorem dJ6_bitCount_0f7a4_9 : decode cJ6_bitCount_0f7a4 9 = .ok (.istore_n 0, 1) := by decide +kernel
theorem dJ6_bitCount_0f7a4_10 : decode cJ6_bitCount_0f7a4 10 = .ok (.iload_n 0, 1) := by decide +kernel
theorem dJ6_bitCount_0f7a4_11 : decode cJ6_bitCount_0f7a4 11 = .ok (.ldc_w 266, 3) := by decide +kernel
theorem dJ6_bitCount_0f7a4_14 : decode cJ6_bitCount_0f7a4 14 = .ok (.iand, 1) := by decide +kernel
theorem dJ6_bitCount_0f7a4_15 : decode cJ6_bitCount_0f7a4 15 = .ok (.iload_n 0, 1) := by decide +kernel
theorem dJ6_bitCount_0f7a4_16 : decode cJ6_bitCount_0f7a4 16 = .ok (.iconst 2, 1) := by decide +kernel
theorem dJ6_bitCount_0f7a4_17 : decode cJ6_bitCount_0f7a4 17 = .ok (.iushr, 1) := by decide +kernel
theorem dJ6_bitCount_0f7a4_18 : decode cJ6_bitCount_0f7a4 18 = .ok (.ldc_w 266, 3) := by decide +kernel
theorem dJ6_bitCount_0f7a4_21 : decode cJ6_bitCount_0f7a4 21 = .ok (.iand, 1) := by decide +kernel
theorem dJ6_bitCount_0f7a4_22 : decode cJ6_bitCount_0f7a4 22 = .ok (.iadd, 1) := by decide +kernel
theorem dJ6_bitCount_0f7a4_23 : decode cJ6_bitCount_0f7a4 23 = .ok (.istore_n 0, 1) := by decide +kernel
theorem dJ6_bitCount_0f7a4_24 : decode cJ6_bitCount_0f7a4 24 = .ok (.iload_n 0, 1) := by decide +kernel
theorem dJ6_bitCount_0f7a4_25 : decode cJ6_bitCount_0f7a4 25 = .ok (.iload_n 0, 1) := by decide +kernel
theorem dJ6_bitCount_0f7a4_26 : decode cJ6_bitCount_0f7a4 26 = .ok (.iconst 4, 1) := by decide +kernel
theorem dJ6_bitCount_0f7a4_27 : decode cJ6_bitCount_0f7a4 27 = .ok (.iushr, 1) := by decide +kernel
theorem dJ6_bitCount_0f7a4_28 : decode cJ6_bitCount_0f7a4 28 = .ok (.iadd, 1) := by decide +kernel
theorem dJ6_bitCount_0f7a4_29 : decode cJ6_bitCount_0f7a4 29 = .ok (.ldc_w 267, 3) := by decide +kernel
theorem dJ6_bitCount_0f7a4_32 : decode cJ6_bitCount_0f7a4 32 = .ok (.iand, 1) := by decide +kernel
theorem dJ6_bitCount_0f7a4_33 : decode cJ6_bitCount_0f7a4 33 = .ok (.istore_n 0, 1) := by decide +kernel
theorem dJ6_bitCount_0f7a4_34 : decode cJ6_bitCount_0f7a4 34 = .ok (.iload_n 0, 1) := by decide +kernel
theorem dJ6_bitCount_0f7a4_35 : decode cJ6_bitCount_0f7a4 35 = .ok (.iload_n 0, 1) := by decide +kernel
theorem dJ6_bitCount_0f7a4_36 : decode cJ6_bitCount_0f7a4 36 = .ok (.bipush 8, 2) := by decide +kernel
theorem dJ6_bitCount_0f7a4_38 : decode cJ6_bitCount_0f7a4 38 = .ok (.iushr, 1) := by decide +kernel
theorem dJ6_bitCount_0f7a4_39 : decode cJ6_bitCount_0f7a4 39 = .ok (.iadd, 1) := by decide +kernel
theorem dJ6_bitCount_0f7a4_40 : decode cJ6_bitCount_0f7a4 40 = .ok (.istore_n 0, 1) := by decide +kernel
theorem dJ6_bitCount_0f7a4_41 : decode cJ6_bitCount_0f7a4 41 = .ok (.iload_n 0, 1) := by decide +kernel
theorem dJ6_bitCount_0f7a4_42 : decode cJ6_bitCount_0f7a4 42 = .ok (.iload_n 0, 1) := by decide +kernel
theorem dJ6_bitCount_0f7a4_43 : decode cJ6_bitCount_0f7a4 43 = .ok (.bipush 16, 2) := by decide +kernel
theorem dJ6_bitCount_0f7a4_45 : decode cJ6_bitCount_0f7a4 45 = .ok (.iushr, 1) := by decide +kernel
theorem dJ6_bitCount_0f7a4_46 : decode cJ6_bitCount_0f7a4 46 = .ok (.iadd, 1) := by decide +kernel
theorem dJ6_bitCount_0f7a4_47 : decode cJ6_bitCount_0f7a4 47 = .ok (.istore_n 0, 1) := by decide +kernel
theorem dJ6_bitCount_0f7a4_48 : decode cJ6_bitCount_0f7a4 48 = .ok (.iload_n 0, 1) := by decide +kernel
theorem dJ6_bitCount_0f7a4_49 : decode cJ6_bitCount_0f7a4 49 = .ok (.bipush 63, 2) := by decide +kernel
theorem dJ6_bitCount_0f7a4_51 : decode cJ6_bitCount_0f7a4 51 = .ok (.iand, 1) := by decide +kernel
theorem dJ6_bitCount_0f7a4_52 : decode cJ6_bitCount_0f7a4 52 = .ok (.ireturn, 1) := by decide +kernel
theorem dJ9_abs_067f4_0 : decode cJ9_abs_067f4 0 = .ok (.lload_n 0, 1) := by decide +kernel
theorem dJ9_abs_067f4_1 : decode cJ9_abs_067f4 1 = .ok (.lconst 0, 1) := by decide +kernel
theorem dJ9_abs_067f4_2 : decode cJ9_abs_067f4 2 = .ok (.lcmp, 1) := by decide +kernel
theorem dJ9_abs_067f4_3 : decode cJ9_abs_067f4 3 = .ok (.ifCond .ge 8, 3) := by decide +kernel
theorem dJ9_abs_067f4_6 : decode cJ9_abs_067f4 6 = .ok (.lload_n 0, 1) := by decide +kernel
theorem dJ9_abs_067f4_7 : decode cJ9_abs_067f4 7 = .ok (.lneg, 1) := by decide +kernel
theorem dJ9_abs_067f4_8 : decode cJ9_abs_067f4 8 = .ok (.goto 4, 3) := by decide +kernel
theorem dJ9_abs_067f4_11 : decode cJ9_abs_067f4 11 = .ok (.lload_n 0, 1) := by decide +kernel
theorem dJ9_abs_067f4_12 : decode cJ9_abs_067f4 12 = .ok (.lreturn, 1) := by decide +kernel
theorem dJ9_max_7cf53_0 : decode cJ9_max_7cf53 0 = .ok (.iload_n 0, 1) := by decide +kernel
theorem dJ9_max_7cf53_1 : decode cJ9_max_7cf53 1 = .ok (.iload_n 1, 1) := by decide +kernel
theorem dJ9_max_7cf53_2 : decode cJ9_max_7cf53 2 = .ok (.if_icmp .lt 7, 3) := by decide +kernel
theorem dJ9_max_7cf53_5 : decode cJ9_max_7cf53 5 = .ok (.iload_n 0, 1) := by decide +kernel
theorem dJ9_max_7cf53_6 : decode cJ9_max_7cf53 6 = .ok (.goto 4, 3) := by decide +kernel
theorem dJ9_max_7cf53_9 : decode cJ9_max_7cf53 9 = .ok (.iload_n 1, 1) := by decide +kernel
theorem dJ9_max_7cf53_10 : decode cJ9_max_7cf53 10 = .ok (.ireturn, 1) := by decide +kernel
theorem dJ9_max_f86c9_0 : decode cJ9_max_f86c9 0 = .ok (.lload_n 0, 1) := by decide +kernel
theorem dJ9_max_f86c9_1 : decode cJ9_max_f86c9 1 = .ok (.lload_n 2, 1) := by decide +kernel
theorem dJ9_max_f86c9_2 : decode cJ9_max_f86c9 2 = .ok (.lcmp, 1) := by decide +kernel
theorem dJ9_max_f86c9_3 : decode cJ9_max_f86c9 3 = .ok (.ifCond .lt 7, 3) := by decide +kernel
theorem dJ9_max_f86c9_6 : decode cJ9_max_f86c9 6 = .ok (.lload_n 0, 1) := by decide +kernel
theorem dJ9_max_f86c9_7 : decode cJ9_max_f86c9 7 = .ok (.goto 4, 3) := by decide +kernel
theorem dJ9_max_f86c9_10 : decode cJ9_max_f86c9 10 = .ok (.lload_n 2, 1) := by decide +kernel
theorem dJ9_max_f86c9_11 : decode cJ9_max_f86c9 11 = .ok (.lreturn, 1) := by decide +kernel
theorem dJ9_min_7cf53_0 : decode cJ9_min_7cf53 0 = .ok (.iload_n 0, 1) := by decide +kernel
theorem dJ9_min_7cf53_1 : decode cJ9_min_7cf53 1 = .ok (.iload_n 1, 1) := by decide +kernel
theorem dJ9_min_7cf53_2 : decode cJ9_min_7cf53 2 = .ok (.if_icmp .gt 7, 3) := by decide +kernel
theorem dJ9_min_7cf53_5 : decode cJ9_min_7cf53 5 = .ok (.iload_n 0, 1) := by decide +kernel
theorem dJ9_min_7cf53_6 : decode cJ9_min_7cf53 6 = .ok (.goto 4, 3) := by decide +kernel
theorem dJ9_min_7cf53_9 : decode cJ9_min_7cf53 9 = .ok (.iload_n 1, 1) := by decide +kernel
theorem dJ9_min_7cf53_10 : decode cJ9_min_7cf53 10 = .ok (.ireturn, 1) := by decide +kernel
theorem dL_law_0 : decode cL_law 0 = .ok (.new 7, 3) := by decide +kernel
theorem dL_law_3 : decode cL_law 3 = .ok (.dup, 1) := by decide +kernel
theorem dL_law_4 : decode cL_law 4 = .ok (.invokespecial 9, 3) := by decide +kernel
theorem dL_law_7 : decode cL_law 7 = .ok (.astore_n 1, 1) := by decide +kernel
theorem dL_law_8 : decode cL_law 8 = .ok (.new 10, 3) := by decide +kernel
theorem dL_law_11 : decode cL_law 11 = .ok (.dup, 1) := by decide +kernel
theorem dL_law_12 : decode cL_law 12 = .ok (.invokespecial 12, 3) := by decide +kernel
theorem dL_law_15 : decode cL_law 15 = .ok (.astore_n 2, 1) := by decide +kernel
theorem dL_law_16 : decode cL_law 16 = .ok (.iconst 0, 1) := by decide +kernel
theorem dL_law_17 : decode cL_law 17 = .ok (.istore_n 3, 1) := by decide +kernel
theorem dL_law_18 : decode cL_law 18 = .ok (.iload_n 3, 1) := by decide +kernel
theorem dL_law_19 : decode cL_law 19 = .ok (.aload_n 0, 1) := by decide +kernel
theorem dL_law_20 : decode cL_law 20 = .ok (.arraylength, 1) := by decide +kernel
theorem dL_law_21 : decode cL_law 21 = .ok (.bipush 8, 2) := by decide +kernel
theorem dL_law_23 : decode cL_law 23 = .ok (.isub, 1) := by decide +kernel
theorem dL_law_24 : decode cL_law 24 = .ok (.if_icmp .gt 927, 3) := by decide +kernel
theorem dL_law_27 : decode cL_law 27 = .ok (.aload_n 0, 1) := by decide +kernel
theorem dL_law_28 : decode cL_law 28 = .ok (.iload_n 3, 1) := by decide +kernel
theorem dL_law_29 : decode cL_law 29 = .ok (.iaload, 1) := by decide +kernel
theorem dL_law_30 : decode cL_law 30 = .ok (.bipush 31, 2) := by decide +kernel
theorem dL_law_32 : decode cL_law 32 = .ok (.iand, 1) := by decide +kernel
theorem dL_law_33 : decode cL_law 33 = .ok (.tableswitch 912 0 25 #[119, 162, 185, 238, 261, 274, 287, 310, 343, 366, 389, 402, 415, 448, 481, 514, 557, 620, 653, 666, 689, 712, 800, 843, 866, 889], 119) := by decide +kernel
theorem dL_law_152 : decode cL_law 152 = .ok (.aload_n 1, 1) := by decide +kernel
theorem dL_law_153 : decode cL_law 153 = .ok (.aload_n 0, 1) := by decide +kernel
theorem dL_law_154 : decode cL_law 154 = .ok (.iload_n 3, 1) := by decide +kernel
theorem dL_law_155 : decode cL_law 155 = .ok (.iconst 1, 1) := by decide +kernel
theorem dL_law_156 : decode cL_law 156 = .ok (.iadd, 1) := by decide +kernel
theorem dL_law_157 : decode cL_law 157 = .ok (.iaload, 1) := by decide +kernel
theorem dL_law_158 : decode cL_law 158 = .ok (.aload_n 0, 1) := by decide +kernel
theorem dL_law_159 : decode cL_law 159 = .ok (.iload_n 3, 1) := by decide +kernel
theorem dL_law_160 : decode cL_law 160 = .ok (.iconst 2, 1) := by decide +kernel
theorem dL_law_161 : decode cL_law 161 = .ok (.iadd, 1) := by decide +kernel
theorem dL_law_162 : decode cL_law 162 = .ok (.iaload, 1) := by decide +kernel
theorem dL_law_163 : decode cL_law 163 = .ok (.aload_n 0, 1) := by decide +kernel
theorem dL_law_164 : decode cL_law 164 = .ok (.iload_n 3, 1) := by decide +kernel
theorem dL_law_165 : decode cL_law 165 = .ok (.iconst 3, 1) := by decide +kernel
theorem dL_law_166 : decode cL_law 166 = .ok (.iadd, 1) := by decide +kernel
theorem dL_law_167 : decode cL_law 167 = .ok (.iaload, 1) := by decide +kernel
theorem dL_law_168 : decode cL_law 168 = .ok (.invokevirtual 13, 3) := by decide +kernel
theorem dL_law_171 : decode cL_law 171 = .ok (.aload_n 2, 1) := by decide +kernel
theorem dL_law_172 : decode cL_law 172 = .ok (.aload_n 0, 1) := by decide +kernel
theorem dL_law_173 : decode cL_law 173 = .ok (.iload_n 3, 1) := by decide +kernel
theorem dL_law_174 : decode cL_law 174 = .ok (.iconst 1, 1) := by decide +kernel
theorem dL_law_175 : decode cL_law 175 = .ok (.iadd, 1) := by decide +kernel
theorem dL_law_176 : decode cL_law 176 = .ok (.iaload, 1) := by decide +kernel
theorem dL_law_177 : decode cL_law 177 = .ok (.aload_n 0, 1) := by decide +kernel
theorem dL_law_178 : decode cL_law 178 = .ok (.iload_n 3, 1) := by decide +kernel
theorem dL_law_179 : decode cL_law 179 = .ok (.iconst 2, 1) := by decide +kernel
theorem dL_law_180 : decode cL_law 180 = .ok (.iadd, 1) := by decide +kernel
theorem dL_law_181 : decode cL_law 181 = .ok (.iaload, 1) := by decide +kernel
theorem dL_law_182 : decode cL_law 182 = .ok (.aload_n 0, 1) := by decide +kernel
theorem dL_law_183 : decode cL_law 183 = .ok (.iload_n 3, 1) := by decide +kernel
theorem dL_law_184 : decode cL_law 184 = .ok (.iconst 3, 1) := by decide +kernel
theorem dL_law_185 : decode cL_law 185 = .ok (.iadd, 1) := by decide +kernel
theorem dL_law_186 : decode cL_law 186 = .ok (.iaload, 1) := by decide +kernel
theorem dL_law_187 : decode cL_law 187 = .ok (.invokevirtual 17, 3) := by decide +kernel
theorem dL_law_190 : decode cL_law 190 = .ok (.if_icmp .eq 755, 3) := by decide +kernel
theorem dL_law_193 : decode cL_law 193 = .ok (.iconst 0, 1) := by decide +kernel
theorem dL_law_194 : decode cL_law 194 = .ok (.ireturn, 1) := by decide +kernel
theorem dL_law_195 : decode cL_law 195 = .ok (.aload_n 1, 1) := by decide +kernel
theorem dL_law_196 : decode cL_law 196 = .ok (.aload_n 0, 1) := by decide +kernel
theorem dL_law_197 : decode cL_law 197 = .ok (.iload_n 3, 1) := by decide +kernel
theorem dL_law_198 : decode cL_law 198 = .ok (.iconst 1, 1) := by decide +kernel
theorem dL_law_199 : decode cL_law 199 = .ok (.iadd, 1) := by decide +kernel
theorem dL_law_200 : decode cL_law 200 = .ok (.iaload, 1) := by decide +kernel
theorem dL_law_201 : decode cL_law 201 = .ok (.invokevirtual 18, 3) := by decide +kernel
theorem dL_law_204 : decode cL_law 204 = .ok (.aload_n 2, 1) := by decide +kernel
theorem dL_law_205 : decode cL_law 205 = .ok (.aload_n 0, 1) := by decide +kernel
theorem dL_law_206 : decode cL_law 206 = .ok (.iload_n 3, 1) := by decide +kernel
theorem dL_law_207 : decode cL_law 207 = .ok (.iconst 1, 1) := by decide +kernel
theorem dL_law_208 : decode cL_law 208 = .ok (.iadd, 1) := by decide +kernel
theorem dL_law_209 : decode cL_law 209 = .ok (.iaload, 1) := by decide +kernel
theorem dL_law_210 : decode cL_law 210 = .ok (.invokevirtual 22, 3) := by decide +kernel
theorem dL_law_213 : decode cL_law 213 = .ok (.if_icmp .eq 732, 3) := by decide +kernel
theorem dL_law_216 : decode cL_law 216 = .ok (.iconst 0, 1) := by decide +kernel
theorem dL_law_217 : decode cL_law 217 = .ok (.ireturn, 1) := by decide +kernel
theorem dL_law_218 : decode cL_law 218 = .ok (.aload_n 1, 1) := by decide +kernel
theorem dL_law_219 : decode cL_law 219 = .ok (.aload_n 0, 1) := by decide +kernel
theorem dL_law_220 : decode cL_law 220 = .ok (.iload_n 3, 1) := by decide +kernel
theorem dL_law_221 : decode cL_law 221 = .ok (.iconst 1, 1) := by decide +kernel
theorem dL_law_222 : decode cL_law 222 = .ok (.iadd, 1) := by decide +kernel
theorem dL_law_223 : decode cL_law 223 = .ok (.iaload, 1) := by decide +kernel
theorem dL_law_224 : decode cL_law 224 = .ok (.aload_n 0, 1) := by decide +kernel
theorem dL_law_225 : decode cL_law 225 = .ok (.iload_n 3, 1) := by decide +kernel
theorem dL_law_226 : decode cL_law 226 = .ok (.iconst 2, 1) := by decide +kernel
theorem dL_law_227 : decode cL_law 227 = .ok (.iadd, 1) := by decide +kernel
theorem dL_law_228 : decode cL_law 228 = .ok (.iaload, 1) := by decide +kernel
theorem dL_law_229 : decode cL_law 229 = .ok (.aload_n 0, 1) := by decide +kernel
theorem dL_law_230 : decode cL_law 230 = .ok (.iload_n 3, 1) := by decide +kernel
theorem dL_law_231 : decode cL_law 231 = .ok (.iconst 3, 1) := by decide +kernel
theorem dL_law_232 : decode cL_law 232 = .ok (.iadd, 1) := by decide +kernel
theorem dL_law_233 : decode cL_law 233 = .ok (.iaload, 1) := by decide +kernel
theorem dL_law_234 : decode cL_law 234 = .ok (.aload_n 0, 1) := by decide +kernel
theorem dL_law_235 : decode cL_law 235 = .ok (.iload_n 3, 1) := by decide +kernel
theorem dL_law_236 : decode cL_law 236 = .ok (.iconst 4, 1) := by decide +kernel
theorem dL_law_237 : decode cL_law 237 = .ok (.iadd, 1) := by decide +kernel
theorem dL_law_238 : decode cL_law 238 = .ok (.iaload, 1) := by decide +kernel
theorem dL_law_239 : decode cL_law 239 = .ok (.invokevirtual 23, 3) := by decide +kernel
theorem dL_law_242 : decode cL_law 242 = .ok (.aload_n 2, 1) := by decide +kernel
theorem dL_law_243 : decode cL_law 243 = .ok (.aload_n 0, 1) := by decide +kernel
theorem dL_law_244 : decode cL_law 244 = .ok (.iload_n 3, 1) := by decide +kernel
theorem dL_law_245 : decode cL_law 245 = .ok (.iconst 1, 1) := by decide +kernel
theorem dL_law_246 : decode cL_law 246 = .ok (.iadd, 1) := by decide +kernel
theorem dL_law_247 : decode cL_law 247 = .ok (.iaload, 1) := by decide +kernel
theorem dL_law_248 : decode cL_law 248 = .ok (.aload_n 0, 1) := by decide +kernel
theorem dL_law_249 : decode cL_law 249 = .ok (.iload_n 3, 1) := by decide +kernel
theorem dL_law_250 : decode cL_law 250 = .ok (.iconst 2, 1) := by decide +kernel
theorem dL_law_251 : decode cL_law 251 = .ok (.iadd, 1) := by decide +kernel
theorem dL_law_252 : decode cL_law 252 = .ok (.iaload, 1) := by decide +kernel
theorem dL_law_253 : decode cL_law 253 = .ok (.aload_n 0, 1) := by decide +kernel
theorem dL_law_254 : decode cL_law 254 = .ok (.iload_n 3, 1) := by decide +kernel
theorem dL_law_255 : decode cL_law 255 = .ok (.iconst 3, 1) := by decide +kernel
theorem dL_law_256 : decode cL_law 256 = .ok (.iadd, 1) := by decide +kernel
theorem dL_law_257 : decode cL_law 257 = .ok (.iaload, 1) := by decide +kernel
theorem dL_law_258 : decode cL_law 258 = .ok (.aload_n 0, 1) := by decide +kernel
theorem dL_law_259 : decode cL_law 259 = .ok (.iload_n 3, 1) := by decide +kernel
theorem dL_law_260 : decode cL_law 260 = .ok (.iconst 4, 1) := by decide +kernel
theorem dL_law_261 : decode cL_law 261 = .ok (.iadd, 1) := by decide +kernel
theorem dL_law_262 : decode cL_law 262 = .ok (.iaload, 1) := by decide +kernel
theorem dL_law_263 : decode cL_law 263 = .ok (.invokevirtual 27, 3) := by decide +kernel
theorem dL_law_266 : decode cL_law 266 = .ok (.if_icmp .eq 679, 3) := by decide +kernel
theorem dL_law_269 : decode cL_law 269 = .ok (.iconst 0, 1) := by decide +kernel
theorem dL_law_270 : decode cL_law 270 = .ok (.ireturn, 1) := by decide +kernel
theorem dL_law_271 : decode cL_law 271 = .ok (.aload_n 1, 1) := by decide +kernel
theorem dL_law_272 : decode cL_law 272 = .ok (.aload_n 0, 1) := by decide +kernel
theorem dL_law_273 : decode cL_law 273 = .ok (.iload_n 3, 1) := by decide +kernel
theorem dL_law_274 : decode cL_law 274 = .ok (.iconst 1, 1) := by decide +kernel
theorem dL_law_275 : decode cL_law 275 = .ok (.iadd, 1) := by decide +kernel
theorem dL_law_276 : decode cL_law 276 = .ok (.iaload, 1) := by decide +kernel
theorem dL_law_277 : decode cL_law 277 = .ok (.invokevirtual 28, 3) := by decide +kernel
theorem dL_law_280 : decode cL_law 280 = .ok (.aload_n 2, 1) := by decide +kernel
theorem dL_law_281 : decode cL_law 281 = .ok (.aload_n 0, 1) := by decide +kernel
theorem dL_law_282 : decode cL_law 282 = .ok (.iload_n 3, 1) := by decide +kernel
theorem dL_law_283 : decode cL_law 283 = .ok (.iconst 1, 1) := by decide +kernel
theorem dL_law_284 : decode cL_law 284 = .ok (.iadd, 1) := by decide +kernel
theorem dL_law_285 : decode cL_law 285 = .ok (.iaload, 1) := by decide +kernel
theorem dL_law_286 : decode cL_law 286 = .ok (.invokevirtual 31, 3) := by decide +kernel
theorem dL_law_289 : decode cL_law 289 = .ok (.if_icmp .eq 656, 3) := by decide +kernel
theorem dL_law_292 : decode cL_law 292 = .ok (.iconst 0, 1) := by decide +kernel
theorem dL_law_293 : decode cL_law 293 = .ok (.ireturn, 1) := by decide +kernel
theorem dL_law_294 : decode cL_law 294 = .ok (.aload_n 1, 1) := by decide +kernel
theorem dL_law_295 : decode cL_law 295 = .ok (.invokevirtual 32, 3) := by decide +kernel
theorem dL_law_298 : decode cL_law 298 = .ok (.aload_n 2, 1) := by decide +kernel
theorem dL_law_299 : decode cL_law 299 = .ok (.invokevirtual 36, 3) := by decide +kernel
theorem dL_law_302 : decode cL_law 302 = .ok (.if_icmp .eq 643, 3) := by decide +kernel
theorem dL_law_305 : decode cL_law 305 = .ok (.iconst 0, 1) := by decide +kernel
theorem dL_law_306 : decode cL_law 306 = .ok (.ireturn, 1) := by decide +kernel
theorem dL_law_307 : decode cL_law 307 = .ok (.aload_n 1, 1) := by decide +kernel
theorem dL_law_308 : decode cL_law 308 = .ok (.invokevirtual 37, 3) := by decide +kernel
theorem dL_law_311 : decode cL_law 311 = .ok (.aload_n 2, 1) := by decide +kernel
theorem dL_law_312 : decode cL_law 312 = .ok (.invokevirtual 40, 3) := by decide +kernel
theorem dL_law_315 : decode cL_law 315 = .ok (.if_icmp .eq 630, 3) := by decide +kernel
theorem dL_law_318 : decode cL_law 318 = .ok (.iconst 0, 1) := by decide +kernel
theorem dL_law_319 : decode cL_law 319 = .ok (.ireturn, 1) := by decide +kernel
theorem dL_law_320 : decode cL_law 320 = .ok (.aload_n 1, 1) := by decide +kernel
theorem dL_law_321 : decode cL_law 321 = .ok (.aload_n 0, 1) := by decide +kernel
theorem dL_law_322 : decode cL_law 322 = .ok (.iload_n 3, 1) := by decide +kernel
theorem dL_law_323 : decode cL_law 323 = .ok (.iconst 1, 1) := by decide +kernel
theorem dL_law_324 : decode cL_law 324 = .ok (.iadd, 1) := by decide +kernel
theorem dL_law_325 : decode cL_law 325 = .ok (.iaload, 1) := by decide +kernel
theorem dL_law_326 : decode cL_law 326 = .ok (.invokevirtual 41, 3) := by decide +kernel
theorem dL_law_329 : decode cL_law 329 = .ok (.aload_n 2, 1) := by decide +kernel
theorem dL_law_330 : decode cL_law 330 = .ok (.aload_n 0, 1) := by decide +kernel
theorem dL_law_331 : decode cL_law 331 = .ok (.iload_n 3, 1) := by decide +kernel
theorem dL_law_332 : decode cL_law 332 = .ok (.iconst 1, 1) := by decide +kernel
theorem dL_law_333 : decode cL_law 333 = .ok (.iadd, 1) := by decide +kernel
theorem dL_law_334 : decode cL_law 334 = .ok (.iaload, 1) := by decide +kernel
theorem dL_law_335 : decode cL_law 335 = .ok (.invokevirtual 44, 3) := by decide +kernel
theorem dL_law_338 : decode cL_law 338 = .ok (.if_icmp .eq 607, 3) := by decide +kernel
theorem dL_law_341 : decode cL_law 341 = .ok (.iconst 0, 1) := by decide +kernel
theorem dL_law_342 : decode cL_law 342 = .ok (.ireturn, 1) := by decide +kernel
theorem dL_law_343 : decode cL_law 343 = .ok (.aload_n 1, 1) := by decide +kernel
theorem dL_law_344 : decode cL_law 344 = .ok (.aload_n 0, 1) := by decide +kernel
theorem dL_law_345 : decode cL_law 345 = .ok (.iload_n 3, 1) := by decide +kernel
theorem dL_law_346 : decode cL_law 346 = .ok (.iconst 1, 1) := by decide +kernel
theorem dL_law_347 : decode cL_law 347 = .ok (.iadd, 1) := by decide +kernel
theorem dL_law_348 : decode cL_law 348 = .ok (.iaload, 1) := by decide +kernel
theorem dL_law_349 : decode cL_law 349 = .ok (.aload_n 0, 1) := by decide +kernel
theorem dL_law_350 : decode cL_law 350 = .ok (.iload_n 3, 1) := by decide +kernel
theorem dL_law_351 : decode cL_law 351 = .ok (.iconst 2, 1) := by decide +kernel
theorem dL_law_352 : decode cL_law 352 = .ok (.iadd, 1) := by decide +kernel
theorem dL_law_353 : decode cL_law 353 = .ok (.iaload, 1) := by decide +kernel
theorem dL_law_354 : decode cL_law 354 = .ok (.invokevirtual 45, 3) := by decide +kernel
theorem dL_law_357 : decode cL_law 357 = .ok (.aload_n 2, 1) := by decide +kernel
theorem dL_law_358 : decode cL_law 358 = .ok (.aload_n 0, 1) := by decide +kernel
theorem dL_law_359 : decode cL_law 359 = .ok (.iload_n 3, 1) := by decide +kernel
theorem dL_law_360 : decode cL_law 360 = .ok (.iconst 1, 1) := by decide +kernel
theorem dL_law_361 : decode cL_law 361 = .ok (.iadd, 1) := by decide +kernel
theorem dL_law_362 : decode cL_law 362 = .ok (.iaload, 1) := by decide +kernel
theorem dL_law_363 : decode cL_law 363 = .ok (.aload_n 0, 1) := by decide +kernel
theorem dL_law_364 : decode cL_law 364 = .ok (.iload_n 3, 1) := by decide +kernel
theorem dL_law_365 : decode cL_law 365 = .ok (.iconst 2, 1) := by decide +kernel
theorem dL_law_366 : decode cL_law 366 = .ok (.iadd, 1) := by decide +kernel
theorem dL_law_367 : decode cL_law 367 = .ok (.iaload, 1) := by decide +kernel
theorem dL_law_368 : decode cL_law 368 = .ok (.invokevirtual 49, 3) := by decide +kernel
theorem dL_law_371 : decode cL_law 371 = .ok (.if_icmp .eq 574, 3) := by decide +kernel
theorem dL_law_374 : decode cL_law 374 = .ok (.iconst 0, 1) := by decide +kernel
theorem dL_law_375 : decode cL_law 375 = .ok (.ireturn, 1) := by decide +kernel
theorem dL_law_376 : decode cL_law 376 = .ok (.aload_n 1, 1) := by decide +kernel
theorem dL_law_377 : decode cL_law 377 = .ok (.aload_n 0, 1) := by decide +kernel
theorem dL_law_378 : decode cL_law 378 = .ok (.iload_n 3, 1) := by decide +kernel
theorem dL_law_379 : decode cL_law 379 = .ok (.iconst 1, 1) := by decide +kernel
theorem dL_law_380 : decode cL_law 380 = .ok (.iadd, 1) := by decide +kernel
theorem dL_law_381 : decode cL_law 381 = .ok (.iaload, 1) := by decide +kernel
theorem dL_law_382 : decode cL_law 382 = .ok (.invokevirtual 50, 3) := by decide +kernel
theorem dL_law_385 : decode cL_law 385 = .ok (.aload_n 2, 1) := by decide +kernel
theorem dL_law_386 : decode cL_law 386 = .ok (.aload_n 0, 1) := by decide +kernel
theorem dL_law_387 : decode cL_law 387 = .ok (.iload_n 3, 1) := by decide +kernel
theorem dL_law_388 : decode cL_law 388 = .ok (.iconst 1, 1) := by decide +kernel
theorem dL_law_389 : decode cL_law 389 = .ok (.iadd, 1) := by decide +kernel
theorem dL_law_390 : decode cL_law 390 = .ok (.iaload, 1) := by decide +kernel
theorem dL_law_391 : decode cL_law 391 = .ok (.invokevirtual 53, 3) := by decide +kernel
theorem dL_law_394 : decode cL_law 394 = .ok (.if_icmp .eq 551, 3) := by decide +kernel
theorem dL_law_397 : decode cL_law 397 = .ok (.iconst 0, 1) := by decide +kernel
theorem dL_law_398 : decode cL_law 398 = .ok (.ireturn, 1) := by decide +kernel
theorem dL_law_399 : decode cL_law 399 = .ok (.aload_n 1, 1) := by decide +kernel
theorem dL_law_400 : decode cL_law 400 = .ok (.aload_n 0, 1) := by decide +kernel
theorem dL_law_401 : decode cL_law 401 = .ok (.iload_n 3, 1) := by decide +kernel
theorem dL_law_402 : decode cL_law 402 = .ok (.iconst 1, 1) := by decide +kernel
theorem dL_law_403 : decode cL_law 403 = .ok (.iadd, 1) := by decide +kernel
theorem dL_law_404 : decode cL_law 404 = .ok (.iaload, 1) := by decide +kernel
theorem dL_law_405 : decode cL_law 405 = .ok (.invokevirtual 54, 3) := by decide +kernel
theorem dL_law_408 : decode cL_law 408 = .ok (.aload_n 2, 1) := by decide +kernel
theorem dL_law_409 : decode cL_law 409 = .ok (.aload_n 0, 1) := by decide +kernel
theorem dL_law_410 : decode cL_law 410 = .ok (.iload_n 3, 1) := by decide +kernel
theorem dL_law_411 : decode cL_law 411 = .ok (.iconst 1, 1) := by decide +kernel
theorem dL_law_412 : decode cL_law 412 = .ok (.iadd, 1) := by decide +kernel
theorem dL_law_413 : decode cL_law 413 = .ok (.iaload, 1) := by decide +kernel
theorem dL_law_414 : decode cL_law 414 = .ok (.invokevirtual 57, 3) := by decide +kernel
theorem dL_law_417 : decode cL_law 417 = .ok (.if_icmp .eq 528, 3) := by decide +kernel
theorem dL_law_420 : decode cL_law 420 = .ok (.iconst 0, 1) := by decide +kernel
theorem dL_law_421 : decode cL_law 421 = .ok (.ireturn, 1) := by decide +kernel
theorem dL_law_422 : decode cL_law 422 = .ok (.aload_n 1, 1) := by decide +kernel
theorem dL_law_423 : decode cL_law 423 = .ok (.invokevirtual 58, 3) := by decide +kernel
theorem dL_law_426 : decode cL_law 426 = .ok (.aload_n 2, 1) := by decide +kernel
theorem dL_law_427 : decode cL_law 427 = .ok (.invokevirtual 61, 3) := by decide +kernel
theorem dL_law_430 : decode cL_law 430 = .ok (.if_icmp .eq 515, 3) := by decide +kernel
theorem dL_law_433 : decode cL_law 433 = .ok (.iconst 0, 1) := by decide +kernel
theorem dL_law_434 : decode cL_law 434 = .ok (.ireturn, 1) := by decide +kernel
theorem dL_law_435 : decode cL_law 435 = .ok (.aload_n 1, 1) := by decide +kernel
theorem dL_law_436 : decode cL_law 436 = .ok (.invokevirtual 62, 3) := by decide +kernel
theorem dL_law_439 : decode cL_law 439 = .ok (.aload_n 2, 1) := by decide +kernel
theorem dL_law_440 : decode cL_law 440 = .ok (.invokevirtual 65, 3) := by decide +kernel
theorem dL_law_443 : decode cL_law 443 = .ok (.if_icmp .eq 502, 3) := by decide +kernel
theorem dL_law_446 : decode cL_law 446 = .ok (.iconst 0, 1) := by decide +kernel
theorem dL_law_447 : decode cL_law 447 = .ok (.ireturn, 1) := by decide +kernel
theorem dL_law_448 : decode cL_law 448 = .ok (.aload_n 1, 1) := by decide +kernel
theorem dL_law_449 : decode cL_law 449 = .ok (.aload_n 0, 1) := by decide +kernel
theorem dL_law_450 : decode cL_law 450 = .ok (.iload_n 3, 1) := by decide +kernel
theorem dL_law_451 : decode cL_law 451 = .ok (.iconst 1, 1) := by decide +kernel
theorem dL_law_452 : decode cL_law 452 = .ok (.iadd, 1) := by decide +kernel
theorem dL_law_453 : decode cL_law 453 = .ok (.iaload, 1) := by decide +kernel
theorem dL_law_454 : decode cL_law 454 = .ok (.aload_n 0, 1) := by decide +kernel
theorem dL_law_455 : decode cL_law 455 = .ok (.iload_n 3, 1) := by decide +kernel
theorem dL_law_456 : decode cL_law 456 = .ok (.iconst 2, 1) := by decide +kernel
theorem dL_law_457 : decode cL_law 457 = .ok (.iadd, 1) := by decide +kernel
theorem dL_law_458 : decode cL_law 458 = .ok (.iaload, 1) := by decide +kernel
theorem dL_law_459 : decode cL_law 459 = .ok (.invokevirtual 66, 3) := by decide +kernel
theorem dL_law_462 : decode cL_law 462 = .ok (.aload_n 2, 1) := by decide +kernel
theorem dL_law_463 : decode cL_law 463 = .ok (.aload_n 0, 1) := by decide +kernel
theorem dL_law_464 : decode cL_law 464 = .ok (.iload_n 3, 1) := by decide +kernel
theorem dL_law_465 : decode cL_law 465 = .ok (.iconst 1, 1) := by decide +kernel
theorem dL_law_466 : decode cL_law 466 = .ok (.iadd, 1) := by decide +kernel
theorem dL_law_467 : decode cL_law 467 = .ok (.iaload, 1) := by decide +kernel
theorem dL_law_468 : decode cL_law 468 = .ok (.aload_n 0, 1) := by decide +kernel
theorem dL_law_469 : decode cL_law 469 = .ok (.iload_n 3, 1) := by decide +kernel
theorem dL_law_470 : decode cL_law 470 = .ok (.iconst 2, 1) := by decide +kernel
theorem dL_law_471 : decode cL_law 471 = .ok (.iadd, 1) := by decide +kernel
theorem dL_law_472 : decode cL_law 472 = .ok (.iaload, 1) := by decide +kernel
theorem dL_law_473 : decode cL_law 473 = .ok (.invokevirtual 69, 3) := by decide +kernel
theorem dL_law_476 : decode cL_law 476 = .ok (.if_icmp .eq 469, 3) := by decide +kernel
theorem dL_law_479 : decode cL_law 479 = .ok (.iconst 0, 1) := by decide +kernel
theorem dL_law_480 : decode cL_law 480 = .ok (.ireturn, 1) := by decide +kernel
theorem dL_law_481 : decode cL_law 481 = .ok (.aload_n 1, 1) := by decide +kernel
theorem dL_law_482 : decode cL_law 482 = .ok (.aload_n 0, 1) := by decide +kernel
theorem dL_law_483 : decode cL_law 483 = .ok (.iload_n 3, 1) := by decide +kernel
theorem dL_law_484 : decode cL_law 484 = .ok (.iconst 1, 1) := by decide +kernel
theorem dL_law_485 : decode cL_law 485 = .ok (.iadd, 1) := by decide +kernel
theorem dL_law_486 : decode cL_law 486 = .ok (.iaload, 1) := by decide +kernel
theorem dL_law_487 : decode cL_law 487 = .ok (.aload_n 0, 1) := by decide +kernel
theorem dL_law_488 : decode cL_law 488 = .ok (.iload_n 3, 1) := by decide +kernel
theorem dL_law_489 : decode cL_law 489 = .ok (.iconst 2, 1) := by decide +kernel
theorem dL_law_490 : decode cL_law 490 = .ok (.iadd, 1) := by decide +kernel
theorem dL_law_491 : decode cL_law 491 = .ok (.iaload, 1) := by decide +kernel
theorem dL_law_492 : decode cL_law 492 = .ok (.invokevirtual 70, 3) := by decide +kernel
theorem dL_law_495 : decode cL_law 495 = .ok (.aload_n 2, 1) := by decide +kernel
theorem dL_law_496 : decode cL_law 496 = .ok (.aload_n 0, 1) := by decide +kernel
theorem dL_law_497 : decode cL_law 497 = .ok (.iload_n 3, 1) := by decide +kernel
theorem dL_law_498 : decode cL_law 498 = .ok (.iconst 1, 1) := by decide +kernel
theorem dL_law_499 : decode cL_law 499 = .ok (.iadd, 1) := by decide +kernel
theorem dL_law_500 : decode cL_law 500 = .ok (.iaload, 1) := by decide +kernel
theorem dL_law_501 : decode cL_law 501 = .ok (.aload_n 0, 1) := by decide +kernel
theorem dL_law_502 : decode cL_law 502 = .ok (.iload_n 3, 1) := by decide +kernel
theorem dL_law_503 : decode cL_law 503 = .ok (.iconst 2, 1) := by decide +kernel
theorem dL_law_504 : decode cL_law 504 = .ok (.iadd, 1) := by decide +kernel
theorem dL_law_505 : decode cL_law 505 = .ok (.iaload, 1) := by decide +kernel
theorem dL_law_506 : decode cL_law 506 = .ok (.invokevirtual 73, 3) := by decide +kernel
theorem dL_law_509 : decode cL_law 509 = .ok (.if_icmp .eq 436, 3) := by decide +kernel
theorem dL_law_512 : decode cL_law 512 = .ok (.iconst 0, 1) := by decide +kernel
theorem dL_law_513 : decode cL_law 513 = .ok (.ireturn, 1) := by decide +kernel
theorem dL_law_514 : decode cL_law 514 = .ok (.aload_n 1, 1) := by decide +kernel
theorem dL_law_515 : decode cL_law 515 = .ok (.aload_n 0, 1) := by decide +kernel
theorem dL_law_516 : decode cL_law 516 = .ok (.iload_n 3, 1) := by decide +kernel
theorem dL_law_517 : decode cL_law 517 = .ok (.iconst 1, 1) := by decide +kernel
theorem dL_law_518 : decode cL_law 518 = .ok (.iadd, 1) := by decide +kernel
theorem dL_law_519 : decode cL_law 519 = .ok (.iaload, 1) := by decide +kernel
theorem dL_law_520 : decode cL_law 520 = .ok (.aload_n 0, 1) := by decide +kernel
theorem dL_law_521 : decode cL_law 521 = .ok (.iload_n 3, 1) := by decide +kernel
theorem dL_law_522 : decode cL_law 522 = .ok (.iconst 2, 1) := by decide +kernel
theorem dL_law_523 : decode cL_law 523 = .ok (.iadd, 1) := by decide +kernel
theorem dL_law_524 : decode cL_law 524 = .ok (.iaload, 1) := by decide +kernel
theorem dL_law_525 : decode cL_law 525 = .ok (.invokevirtual 74, 3) := by decide +kernel
theorem dL_law_528 : decode cL_law 528 = .ok (.aload_n 2, 1) := by decide +kernel
theorem dL_law_529 : decode cL_law 529 = .ok (.aload_n 0, 1) := by decide +kernel
theorem dL_law_530 : decode cL_law 530 = .ok (.iload_n 3, 1) := by decide +kernel
theorem dL_law_531 : decode cL_law 531 = .ok (.iconst 1, 1) := by decide +kernel
theorem dL_law_532 : decode cL_law 532 = .ok (.iadd, 1) := by decide +kernel
theorem dL_law_533 : decode cL_law 533 = .ok (.iaload, 1) := by decide +kernel
theorem dL_law_534 : decode cL_law 534 = .ok (.aload_n 0, 1) := by decide +kernel
theorem dL_law_535 : decode cL_law 535 = .ok (.iload_n 3, 1) := by decide +kernel
theorem dL_law_536 : decode cL_law 536 = .ok (.iconst 2, 1) := by decide +kernel
theorem dL_law_537 : decode cL_law 537 = .ok (.iadd, 1) := by decide +kernel
theorem dL_law_538 : decode cL_law 538 = .ok (.iaload, 1) := by decide +kernel
theorem dL_law_539 : decode cL_law 539 = .ok (.invokevirtual 77, 3) := by decide +kernel
theorem dL_law_542 : decode cL_law 542 = .ok (.if_icmp .eq 403, 3) := by decide +kernel
theorem dL_law_545 : decode cL_law 545 = .ok (.iconst 0, 1) := by decide +kernel
theorem dL_law_546 : decode cL_law 546 = .ok (.ireturn, 1) := by decide +kernel
theorem dL_law_547 : decode cL_law 547 = .ok (.aload_n 1, 1) := by decide +kernel
theorem dL_law_548 : decode cL_law 548 = .ok (.aload_n 0, 1) := by decide +kernel
theorem dL_law_549 : decode cL_law 549 = .ok (.iload_n 3, 1) := by decide +kernel
theorem dL_law_550 : decode cL_law 550 = .ok (.iconst 1, 1) := by decide +kernel
theorem dL_law_551 : decode cL_law 551 = .ok (.iadd, 1) := by decide +kernel
theorem dL_law_552 : decode cL_law 552 = .ok (.iaload, 1) := by decide +kernel
theorem dL_law_553 : decode cL_law 553 = .ok (.aload_n 0, 1) := by decide +kernel
theorem dL_law_554 : decode cL_law 554 = .ok (.iload_n 3, 1) := by decide +kernel
theorem dL_law_555 : decode cL_law 555 = .ok (.iconst 2, 1) := by decide +kernel
theorem dL_law_556 : decode cL_law 556 = .ok (.iadd, 1) := by decide +kernel
theorem dL_law_557 : decode cL_law 557 = .ok (.iaload, 1) := by decide +kernel
theorem dL_law_558 : decode cL_law 558 = .ok (.aload_n 0, 1) := by decide +kernel
theorem dL_law_559 : decode cL_law 559 = .ok (.iload_n 3, 1) := by decide +kernel
theorem dL_law_560 : decode cL_law 560 = .ok (.iconst 3, 1) := by decide +kernel
theorem dL_law_561 : decode cL_law 561 = .ok (.iadd, 1) := by decide +kernel
theorem dL_law_562 : decode cL_law 562 = .ok (.iaload, 1) := by decide +kernel
theorem dL_law_563 : decode cL_law 563 = .ok (.invokevirtual 78, 3) := by decide +kernel
theorem dL_law_566 : decode cL_law 566 = .ok (.aload_n 2, 1) := by decide +kernel
theorem dL_law_567 : decode cL_law 567 = .ok (.aload_n 0, 1) := by decide +kernel
theorem dL_law_568 : decode cL_law 568 = .ok (.iload_n 3, 1) := by decide +kernel
theorem dL_law_569 : decode cL_law 569 = .ok (.iconst 1, 1) := by decide +kernel
theorem dL_law_570 : decode cL_law 570 = .ok (.iadd, 1) := by decide +kernel
theorem dL_law_571 : decode cL_law 571 = .ok (.iaload, 1) := by decide +kernel
theorem dL_law_572 : decode cL_law 572 = .ok (.aload_n 0, 1) := by decide +kernel
theorem dL_law_573 : decode cL_law 573 = .ok (.iload_n 3, 1) := by decide +kernel
theorem dL_law_574 : decode cL_law 574 = .ok (.iconst 2, 1) := by decide +kernel
theorem dL_law_575 : decode cL_law 575 = .ok (.iadd, 1) := by decide +kernel
theorem dL_law_576 : decode cL_law 576 = .ok (.iaload, 1) := by decide +kernel
theorem dL_law_577 : decode cL_law 577 = .ok (.aload_n 0, 1) := by decide +kernel
theorem dL_law_578 : decode cL_law 578 = .ok (.iload_n 3, 1) := by decide +kernel
theorem dL_law_579 : decode cL_law 579 = .ok (.iconst 3, 1) := by decide +kernel
theorem dL_law_580 : decode cL_law 580 = .ok (.iadd, 1) := by decide +kernel
theorem dL_law_581 : decode cL_law 581 = .ok (.iaload, 1) := by decide +kernel
theorem dL_law_582 : decode cL_law 582 = .ok (.invokevirtual 81, 3) := by decide +kernel
theorem dL_law_585 : decode cL_law 585 = .ok (.if_icmp .eq 360, 3) := by decide +kernel
theorem dL_law_588 : decode cL_law 588 = .ok (.iconst 0, 1) := by decide +kernel
theorem dL_law_589 : decode cL_law 589 = .ok (.ireturn, 1) := by decide +kernel
theorem dL_law_590 : decode cL_law 590 = .ok (.aload_n 1, 1) := by decide +kernel
theorem dL_law_591 : decode cL_law 591 = .ok (.aload_n 0, 1) := by decide +kernel
theorem dL_law_592 : decode cL_law 592 = .ok (.iload_n 3, 1) := by decide +kernel
theorem dL_law_593 : decode cL_law 593 = .ok (.iconst 1, 1) := by decide +kernel
theorem dL_law_594 : decode cL_law 594 = .ok (.iadd, 1) := by decide +kernel
theorem dL_law_595 : decode cL_law 595 = .ok (.iaload, 1) := by decide +kernel
theorem dL_law_596 : decode cL_law 596 = .ok (.aload_n 0, 1) := by decide +kernel
theorem dL_law_597 : decode cL_law 597 = .ok (.iload_n 3, 1) := by decide +kernel
theorem dL_law_598 : decode cL_law 598 = .ok (.iconst 2, 1) := by decide +kernel
theorem dL_law_599 : decode cL_law 599 = .ok (.iadd, 1) := by decide +kernel
theorem dL_law_600 : decode cL_law 600 = .ok (.iaload, 1) := by decide +kernel
theorem dL_law_601 : decode cL_law 601 = .ok (.aload_n 0, 1) := by decide +kernel
theorem dL_law_602 : decode cL_law 602 = .ok (.iload_n 3, 1) := by decide +kernel
theorem dL_law_603 : decode cL_law 603 = .ok (.iconst 3, 1) := by decide +kernel
theorem dL_law_604 : decode cL_law 604 = .ok (.iadd, 1) := by decide +kernel
theorem dL_law_605 : decode cL_law 605 = .ok (.iaload, 1) := by decide +kernel
theorem dL_law_606 : decode cL_law 606 = .ok (.aload_n 0, 1) := by decide +kernel
theorem dL_law_607 : decode cL_law 607 = .ok (.iload_n 3, 1) := by decide +kernel
theorem dL_law_608 : decode cL_law 608 = .ok (.iconst 4, 1) := by decide +kernel
theorem dL_law_609 : decode cL_law 609 = .ok (.iadd, 1) := by decide +kernel
theorem dL_law_610 : decode cL_law 610 = .ok (.iaload, 1) := by decide +kernel
theorem dL_law_611 : decode cL_law 611 = .ok (.aload_n 0, 1) := by decide +kernel
theorem dL_law_612 : decode cL_law 612 = .ok (.iload_n 3, 1) := by decide +kernel
theorem dL_law_613 : decode cL_law 613 = .ok (.iconst 5, 1) := by decide +kernel
theorem dL_law_614 : decode cL_law 614 = .ok (.iadd, 1) := by decide +kernel
theorem dL_law_615 : decode cL_law 615 = .ok (.iaload, 1) := by decide +kernel
theorem dL_law_616 : decode cL_law 616 = .ok (.invokevirtual 82, 3) := by decide +kernel
theorem dL_law_619 : decode cL_law 619 = .ok (.aload_n 2, 1) := by decide +kernel
theorem dL_law_620 : decode cL_law 620 = .ok (.aload_n 0, 1) := by decide +kernel
theorem dL_law_621 : decode cL_law 621 = .ok (.iload_n 3, 1) := by decide +kernel
theorem dL_law_622 : decode cL_law 622 = .ok (.iconst 1, 1) := by decide +kernel
theorem dL_law_623 : decode cL_law 623 = .ok (.iadd, 1) := by decide +kernel
theorem dL_law_624 : decode cL_law 624 = .ok (.iaload, 1) := by decide +kernel
theorem dL_law_625 : decode cL_law 625 = .ok (.aload_n 0, 1) := by decide +kernel
theorem dL_law_626 : decode cL_law 626 = .ok (.iload_n 3, 1) := by decide +kernel
theorem dL_law_627 : decode cL_law 627 = .ok (.iconst 2, 1) := by decide +kernel
theorem dL_law_628 : decode cL_law 628 = .ok (.iadd, 1) := by decide +kernel
theorem dL_law_629 : decode cL_law 629 = .ok (.iaload, 1) := by decide +kernel
theorem dL_law_630 : decode cL_law 630 = .ok (.aload_n 0, 1) := by decide +kernel
theorem dL_law_631 : decode cL_law 631 = .ok (.iload_n 3, 1) := by decide +kernel
theorem dL_law_632 : decode cL_law 632 = .ok (.iconst 3, 1) := by decide +kernel
theorem dL_law_633 : decode cL_law 633 = .ok (.iadd, 1) := by decide +kernel
theorem dL_law_634 : decode cL_law 634 = .ok (.iaload, 1) := by decide +kernel
theorem dL_law_635 : decode cL_law 635 = .ok (.aload_n 0, 1) := by decide +kernel
theorem dL_law_636 : decode cL_law 636 = .ok (.iload_n 3, 1) := by decide +kernel
theorem dL_law_637 : decode cL_law 637 = .ok (.iconst 4, 1) := by decide +kernel
theorem dL_law_638 : decode cL_law 638 = .ok (.iadd, 1) := by decide +kernel
theorem dL_law_639 : decode cL_law 639 = .ok (.iaload, 1) := by decide +kernel
theorem dL_law_640 : decode cL_law 640 = .ok (.aload_n 0, 1) := by decide +kernel
theorem dL_law_641 : decode cL_law 641 = .ok (.iload_n 3, 1) := by decide +kernel
theorem dL_law_642 : decode cL_law 642 = .ok (.iconst 5, 1) := by decide +kernel
theorem dL_law_643 : decode cL_law 643 = .ok (.iadd, 1) := by decide +kernel
theorem dL_law_644 : decode cL_law 644 = .ok (.iaload, 1) := by decide +kernel
theorem dL_law_645 : decode cL_law 645 = .ok (.invokevirtual 86, 3) := by decide +kernel
theorem dL_law_648 : decode cL_law 648 = .ok (.if_icmp .eq 297, 3) := by decide +kernel
theorem dL_law_651 : decode cL_law 651 = .ok (.iconst 0, 1) := by decide +kernel
theorem dL_law_652 : decode cL_law 652 = .ok (.ireturn, 1) := by decide +kernel
theorem dL_law_653 : decode cL_law 653 = .ok (.aload_n 1, 1) := by decide +kernel
theorem dL_law_654 : decode cL_law 654 = .ok (.aload_n 0, 1) := by decide +kernel
theorem dL_law_655 : decode cL_law 655 = .ok (.iload_n 3, 1) := by decide +kernel
theorem dL_law_656 : decode cL_law 656 = .ok (.iconst 1, 1) := by decide +kernel
theorem dL_law_657 : decode cL_law 657 = .ok (.iadd, 1) := by decide +kernel
theorem dL_law_658 : decode cL_law 658 = .ok (.iaload, 1) := by decide +kernel
theorem dL_law_659 : decode cL_law 659 = .ok (.aload_n 0, 1) := by decide +kernel
theorem dL_law_660 : decode cL_law 660 = .ok (.iload_n 3, 1) := by decide +kernel
theorem dL_law_661 : decode cL_law 661 = .ok (.iconst 2, 1) := by decide +kernel
theorem dL_law_662 : decode cL_law 662 = .ok (.iadd, 1) := by decide +kernel
theorem dL_law_663 : decode cL_law 663 = .ok (.iaload, 1) := by decide +kernel
theorem dL_law_664 : decode cL_law 664 = .ok (.invokevirtual 87, 3) := by decide +kernel
theorem dL_law_667 : decode cL_law 667 = .ok (.aload_n 2, 1) := by decide +kernel
theorem dL_law_668 : decode cL_law 668 = .ok (.aload_n 0, 1) := by decide +kernel
theorem dL_law_669 : decode cL_law 669 = .ok (.iload_n 3, 1) := by decide +kernel
theorem dL_law_670 : decode cL_law 670 = .ok (.iconst 1, 1) := by decide +kernel
theorem dL_law_671 : decode cL_law 671 = .ok (.iadd, 1) := by decide +kernel
theorem dL_law_672 : decode cL_law 672 = .ok (.iaload, 1) := by decide +kernel
theorem dL_law_673 : decode cL_law 673 = .ok (.aload_n 0, 1) := by decide +kernel
theorem dL_law_674 : decode cL_law 674 = .ok (.iload_n 3, 1) := by decide +kernel
theorem dL_law_675 : decode cL_law 675 = .ok (.iconst 2, 1) := by decide +kernel
theorem dL_law_676 : decode cL_law 676 = .ok (.iadd, 1) := by decide +kernel
theorem dL_law_677 : decode cL_law 677 = .ok (.iaload, 1) := by decide +kernel
theorem dL_law_678 : decode cL_law 678 = .ok (.invokevirtual 90, 3) := by decide +kernel
theorem dL_law_681 : decode cL_law 681 = .ok (.if_icmp .eq 264, 3) := by decide +kernel
theorem dL_law_684 : decode cL_law 684 = .ok (.iconst 0, 1) := by decide +kernel
theorem dL_law_685 : decode cL_law 685 = .ok (.ireturn, 1) := by decide +kernel
theorem dL_law_686 : decode cL_law 686 = .ok (.aload_n 1, 1) := by decide +kernel
theorem dL_law_687 : decode cL_law 687 = .ok (.invokevirtual 91, 3) := by decide +kernel
theorem dL_law_690 : decode cL_law 690 = .ok (.aload_n 2, 1) := by decide +kernel
theorem dL_law_691 : decode cL_law 691 = .ok (.invokevirtual 94, 3) := by decide +kernel
theorem dL_law_694 : decode cL_law 694 = .ok (.if_icmp .eq 251, 3) := by decide +kernel
theorem dL_law_697 : decode cL_law 697 = .ok (.iconst 0, 1) := by decide +kernel
theorem dL_law_698 : decode cL_law 698 = .ok (.ireturn, 1) := by decide +kernel
theorem dL_law_699 : decode cL_law 699 = .ok (.aload_n 1, 1) := by decide +kernel
theorem dL_law_700 : decode cL_law 700 = .ok (.aload_n 0, 1) := by decide +kernel
theorem dL_law_701 : decode cL_law 701 = .ok (.iload_n 3, 1) := by decide +kernel
theorem dL_law_702 : decode cL_law 702 = .ok (.iconst 1, 1) := by decide +kernel
theorem dL_law_703 : decode cL_law 703 = .ok (.iadd, 1) := by decide +kernel
theorem dL_law_704 : decode cL_law 704 = .ok (.iaload, 1) := by decide +kernel
theorem dL_law_705 : decode cL_law 705 = .ok (.invokevirtual 95, 3) := by decide +kernel
theorem dL_law_708 : decode cL_law 708 = .ok (.aload_n 2, 1) := by decide +kernel
theorem dL_law_709 : decode cL_law 709 = .ok (.aload_n 0, 1) := by decide +kernel
theorem dL_law_710 : decode cL_law 710 = .ok (.iload_n 3, 1) := by decide +kernel
theorem dL_law_711 : decode cL_law 711 = .ok (.iconst 1, 1) := by decide +kernel
theorem dL_law_712 : decode cL_law 712 = .ok (.iadd, 1) := by decide +kernel
theorem dL_law_713 : decode cL_law 713 = .ok (.iaload, 1) := by decide +kernel
theorem dL_law_714 : decode cL_law 714 = .ok (.invokevirtual 98, 3) := by decide +kernel
theorem dL_law_717 : decode cL_law 717 = .ok (.if_icmp .eq 228, 3) := by decide +kernel
theorem dL_law_720 : decode cL_law 720 = .ok (.iconst 0, 1) := by decide +kernel
theorem dL_law_721 : decode cL_law 721 = .ok (.ireturn, 1) := by decide +kernel
theorem dL_law_722 : decode cL_law 722 = .ok (.aload_n 1, 1) := by decide +kernel
theorem dL_law_723 : decode cL_law 723 = .ok (.aload_n 0, 1) := by decide +kernel
theorem dL_law_724 : decode cL_law 724 = .ok (.iload_n 3, 1) := by decide +kernel
theorem dL_law_725 : decode cL_law 725 = .ok (.iconst 1, 1) := by decide +kernel
theorem dL_law_726 : decode cL_law 726 = .ok (.iadd, 1) := by decide +kernel
theorem dL_law_727 : decode cL_law 727 = .ok (.iaload, 1) := by decide +kernel
theorem dL_law_728 : decode cL_law 728 = .ok (.invokevirtual 99, 3) := by decide +kernel
theorem dL_law_731 : decode cL_law 731 = .ok (.aload_n 2, 1) := by decide +kernel
theorem dL_law_732 : decode cL_law 732 = .ok (.aload_n 0, 1) := by decide +kernel
theorem dL_law_733 : decode cL_law 733 = .ok (.iload_n 3, 1) := by decide +kernel
theorem dL_law_734 : decode cL_law 734 = .ok (.iconst 1, 1) := by decide +kernel
theorem dL_law_735 : decode cL_law 735 = .ok (.iadd, 1) := by decide +kernel
theorem dL_law_736 : decode cL_law 736 = .ok (.iaload, 1) := by decide +kernel
theorem dL_law_737 : decode cL_law 737 = .ok (.invokevirtual 102, 3) := by decide +kernel
theorem dL_law_740 : decode cL_law 740 = .ok (.if_icmp .eq 205, 3) := by decide +kernel
theorem dL_law_743 : decode cL_law 743 = .ok (.iconst 0, 1) := by decide +kernel
theorem dL_law_744 : decode cL_law 744 = .ok (.ireturn, 1) := by decide +kernel
theorem dL_law_745 : decode cL_law 745 = .ok (.aload_n 1, 1) := by decide +kernel
theorem dL_law_746 : decode cL_law 746 = .ok (.aload_n 0, 1) := by decide +kernel
theorem dL_law_747 : decode cL_law 747 = .ok (.iload_n 3, 1) := by decide +kernel
theorem dL_law_748 : decode cL_law 748 = .ok (.iconst 1, 1) := by decide +kernel
theorem dL_law_749 : decode cL_law 749 = .ok (.iadd, 1) := by decide +kernel
theorem dL_law_750 : decode cL_law 750 = .ok (.iaload, 1) := by decide +kernel
theorem dL_law_751 : decode cL_law 751 = .ok (.aload_n 0, 1) := by decide +kernel
theorem dL_law_752 : decode cL_law 752 = .ok (.iload_n 3, 1) := by decide +kernel
theorem dL_law_753 : decode cL_law 753 = .ok (.iconst 2, 1) := by decide +kernel
theorem dL_law_754 : decode cL_law 754 = .ok (.iadd, 1) := by decide +kernel
theorem dL_law_755 : decode cL_law 755 = .ok (.iaload, 1) := by decide +kernel
theorem dL_law_756 : decode cL_law 756 = .ok (.aload_n 0, 1) := by decide +kernel
theorem dL_law_757 : decode cL_law 757 = .ok (.iload_n 3, 1) := by decide +kernel
theorem dL_law_758 : decode cL_law 758 = .ok (.iconst 3, 1) := by decide +kernel
theorem dL_law_759 : decode cL_law 759 = .ok (.iadd, 1) := by decide +kernel
theorem dL_law_760 : decode cL_law 760 = .ok (.iaload, 1) := by decide +kernel
theorem dL_law_761 : decode cL_law 761 = .ok (.aload_n 0, 1) := by decide +kernel
theorem dL_law_762 : decode cL_law 762 = .ok (.iload_n 3, 1) := by decide +kernel
theorem dL_law_763 : decode cL_law 763 = .ok (.iconst 4, 1) := by decide +kernel
theorem dL_law_764 : decode cL_law 764 = .ok (.iadd, 1) := by decide +kernel
theorem dL_law_765 : decode cL_law 765 = .ok (.iaload, 1) := by decide +kernel
theorem dL_law_766 : decode cL_law 766 = .ok (.aload_n 0, 1) := by decide +kernel
theorem dL_law_767 : decode cL_law 767 = .ok (.iload_n 3, 1) := by decide +kernel
theorem dL_law_768 : decode cL_law 768 = .ok (.iconst 5, 1) := by decide +kernel
theorem dL_law_769 : decode cL_law 769 = .ok (.iadd, 1) := by decide +kernel
theorem dL_law_770 : decode cL_law 770 = .ok (.iaload, 1) := by decide +kernel
theorem dL_law_771 : decode cL_law 771 = .ok (.aload_n 0, 1) := by decide +kernel
theorem dL_law_772 : decode cL_law 772 = .ok (.iload_n 3, 1) := by decide +kernel
theorem dL_law_773 : decode cL_law 773 = .ok (.bipush 6, 2) := by decide +kernel
theorem dL_law_775 : decode cL_law 775 = .ok (.iadd, 1) := by decide +kernel
theorem dL_law_776 : decode cL_law 776 = .ok (.iaload, 1) := by decide +kernel
theorem dL_law_777 : decode cL_law 777 = .ok (.aload_n 0, 1) := by decide +kernel
theorem dL_law_778 : decode cL_law 778 = .ok (.iload_n 3, 1) := by decide +kernel
theorem dL_law_779 : decode cL_law 779 = .ok (.bipush 7, 2) := by decide +kernel
theorem dL_law_781 : decode cL_law 781 = .ok (.iadd, 1) := by decide +kernel
theorem dL_law_782 : decode cL_law 782 = .ok (.iaload, 1) := by decide +kernel
theorem dL_law_783 : decode cL_law 783 = .ok (.invokevirtual 103, 3) := by decide +kernel
theorem dL_law_786 : decode cL_law 786 = .ok (.aload_n 2, 1) := by decide +kernel
theorem dL_law_787 : decode cL_law 787 = .ok (.aload_n 0, 1) := by decide +kernel
theorem dL_law_788 : decode cL_law 788 = .ok (.iload_n 3, 1) := by decide +kernel
theorem dL_law_789 : decode cL_law 789 = .ok (.iconst 1, 1) := by decide +kernel
theorem dL_law_790 : decode cL_law 790 = .ok (.iadd, 1) := by decide +kernel
theorem dL_law_791 : decode cL_law 791 = .ok (.iaload, 1) := by decide +kernel
theorem dL_law_792 : decode cL_law 792 = .ok (.aload_n 0, 1) := by decide +kernel
theorem dL_law_793 : decode cL_law 793 = .ok (.iload_n 3, 1) := by decide +kernel
theorem dL_law_794 : decode cL_law 794 = .ok (.iconst 2, 1) := by decide +kernel
theorem dL_law_795 : decode cL_law 795 = .ok (.iadd, 1) := by decide +kernel
theorem dL_law_796 : decode cL_law 796 = .ok (.iaload, 1) := by decide +kernel
theorem dL_law_797 : decode cL_law 797 = .ok (.aload_n 0, 1) := by decide +kernel
theorem dL_law_798 : decode cL_law 798 = .ok (.iload_n 3, 1) := by decide +kernel
theorem dL_law_799 : decode cL_law 799 = .ok (.iconst 3, 1) := by decide +kernel
theorem dL_law_800 : decode cL_law 800 = .ok (.iadd, 1) := by decide +kernel
theorem dL_law_801 : decode cL_law 801 = .ok (.iaload, 1) := by decide +kernel
theorem dL_law_802 : decode cL_law 802 = .ok (.aload_n 0, 1) := by decide +kernel
theorem dL_law_803 : decode cL_law 803 = .ok (.iload_n 3, 1) := by decide +kernel
theorem dL_law_804 : decode cL_law 804 = .ok (.iconst 4, 1) := by decide +kernel
theorem dL_law_805 : decode cL_law 805 = .ok (.iadd, 1) := by decide +kernel
theorem dL_law_806 : decode cL_law 806 = .ok (.iaload, 1) := by decide +kernel
theorem dL_law_807 : decode cL_law 807 = .ok (.aload_n 0, 1) := by decide +kernel
theorem dL_law_808 : decode cL_law 808 = .ok (.iload_n 3, 1) := by decide +kernel
theorem dL_law_809 : decode cL_law 809 = .ok (.iconst 5, 1) := by decide +kernel
theorem dL_law_810 : decode cL_law 810 = .ok (.iadd, 1) := by decide +kernel
theorem dL_law_811 : decode cL_law 811 = .ok (.iaload, 1) := by decide +kernel
theorem dL_law_812 : decode cL_law 812 = .ok (.aload_n 0, 1) := by decide +kernel
theorem dL_law_813 : decode cL_law 813 = .ok (.iload_n 3, 1) := by decide +kernel
theorem dL_law_814 : decode cL_law 814 = .ok (.bipush 6, 2) := by decide +kernel
theorem dL_law_816 : decode cL_law 816 = .ok (.iadd, 1) := by decide +kernel
theorem dL_law_817 : decode cL_law 817 = .ok (.iaload, 1) := by decide +kernel
theorem dL_law_818 : decode cL_law 818 = .ok (.aload_n 0, 1) := by decide +kernel
theorem dL_law_819 : decode cL_law 819 = .ok (.iload_n 3, 1) := by decide +kernel
theorem dL_law_820 : decode cL_law 820 = .ok (.bipush 7, 2) := by decide +kernel
theorem dL_law_822 : decode cL_law 822 = .ok (.iadd, 1) := by decide +kernel
theorem dL_law_823 : decode cL_law 823 = .ok (.iaload, 1) := by decide +kernel
theorem dL_law_824 : decode cL_law 824 = .ok (.invokevirtual 107, 3) := by decide +kernel
theorem dL_law_827 : decode cL_law 827 = .ok (.lcmp, 1) := by decide +kernel
theorem dL_law_828 : decode cL_law 828 = .ok (.ifCond .eq 117, 3) := by decide +kernel
theorem dL_law_831 : decode cL_law 831 = .ok (.iconst 0, 1) := by decide +kernel
theorem dL_law_832 : decode cL_law 832 = .ok (.ireturn, 1) := by decide +kernel
theorem dL_law_833 : decode cL_law 833 = .ok (.aload_n 1, 1) := by decide +kernel
theorem dL_law_834 : decode cL_law 834 = .ok (.aload_n 0, 1) := by decide +kernel
theorem dL_law_835 : decode cL_law 835 = .ok (.iload_n 3, 1) := by decide +kernel
theorem dL_law_836 : decode cL_law 836 = .ok (.iconst 1, 1) := by decide +kernel
theorem dL_law_837 : decode cL_law 837 = .ok (.iadd, 1) := by decide +kernel
theorem dL_law_838 : decode cL_law 838 = .ok (.iaload, 1) := by decide +kernel
theorem dL_law_839 : decode cL_law 839 = .ok (.aload_n 0, 1) := by decide +kernel
theorem dL_law_840 : decode cL_law 840 = .ok (.iload_n 3, 1) := by decide +kernel
theorem dL_law_841 : decode cL_law 841 = .ok (.iconst 2, 1) := by decide +kernel
theorem dL_law_842 : decode cL_law 842 = .ok (.iadd, 1) := by decide +kernel
theorem dL_law_843 : decode cL_law 843 = .ok (.iaload, 1) := by decide +kernel
theorem dL_law_844 : decode cL_law 844 = .ok (.aload_n 0, 1) := by decide +kernel
theorem dL_law_845 : decode cL_law 845 = .ok (.iload_n 3, 1) := by decide +kernel
theorem dL_law_846 : decode cL_law 846 = .ok (.iconst 3, 1) := by decide +kernel
theorem dL_law_847 : decode cL_law 847 = .ok (.iadd, 1) := by decide +kernel
theorem dL_law_848 : decode cL_law 848 = .ok (.iaload, 1) := by decide +kernel
theorem dL_law_849 : decode cL_law 849 = .ok (.invokevirtual 108, 3) := by decide +kernel
theorem dL_law_852 : decode cL_law 852 = .ok (.aload_n 2, 1) := by decide +kernel
theorem dL_law_853 : decode cL_law 853 = .ok (.aload_n 0, 1) := by decide +kernel
theorem dL_law_854 : decode cL_law 854 = .ok (.iload_n 3, 1) := by decide +kernel
theorem dL_law_855 : decode cL_law 855 = .ok (.iconst 1, 1) := by decide +kernel
theorem dL_law_856 : decode cL_law 856 = .ok (.iadd, 1) := by decide +kernel
theorem dL_law_857 : decode cL_law 857 = .ok (.iaload, 1) := by decide +kernel
theorem dL_law_858 : decode cL_law 858 = .ok (.aload_n 0, 1) := by decide +kernel
theorem dL_law_859 : decode cL_law 859 = .ok (.iload_n 3, 1) := by decide +kernel
theorem dL_law_860 : decode cL_law 860 = .ok (.iconst 2, 1) := by decide +kernel
theorem dL_law_861 : decode cL_law 861 = .ok (.iadd, 1) := by decide +kernel
theorem dL_law_862 : decode cL_law 862 = .ok (.iaload, 1) := by decide +kernel
theorem dL_law_863 : decode cL_law 863 = .ok (.aload_n 0, 1) := by decide +kernel
theorem dL_law_864 : decode cL_law 864 = .ok (.iload_n 3, 1) := by decide +kernel
theorem dL_law_865 : decode cL_law 865 = .ok (.iconst 3, 1) := by decide +kernel
theorem dL_law_866 : decode cL_law 866 = .ok (.iadd, 1) := by decide +kernel
theorem dL_law_867 : decode cL_law 867 = .ok (.iaload, 1) := by decide +kernel
theorem dL_law_868 : decode cL_law 868 = .ok (.invokevirtual 111, 3) := by decide +kernel
theorem dL_law_871 : decode cL_law 871 = .ok (.if_icmp .eq 74, 3) := by decide +kernel
theorem dL_law_874 : decode cL_law 874 = .ok (.iconst 0, 1) := by decide +kernel
theorem dL_law_875 : decode cL_law 875 = .ok (.ireturn, 1) := by decide +kernel
theorem dL_law_876 : decode cL_law 876 = .ok (.aload_n 1, 1) := by decide +kernel
theorem dL_law_877 : decode cL_law 877 = .ok (.aload_n 0, 1) := by decide +kernel
theorem dL_law_878 : decode cL_law 878 = .ok (.iload_n 3, 1) := by decide +kernel
theorem dL_law_879 : decode cL_law 879 = .ok (.iconst 1, 1) := by decide +kernel
theorem dL_law_880 : decode cL_law 880 = .ok (.iadd, 1) := by decide +kernel
theorem dL_law_881 : decode cL_law 881 = .ok (.iaload, 1) := by decide +kernel
theorem dL_law_882 : decode cL_law 882 = .ok (.invokevirtual 112, 3) := by decide +kernel
theorem dL_law_885 : decode cL_law 885 = .ok (.aload_n 2, 1) := by decide +kernel
theorem dL_law_886 : decode cL_law 886 = .ok (.aload_n 0, 1) := by decide +kernel
theorem dL_law_887 : decode cL_law 887 = .ok (.iload_n 3, 1) := by decide +kernel
theorem dL_law_888 : decode cL_law 888 = .ok (.iconst 1, 1) := by decide +kernel
theorem dL_law_889 : decode cL_law 889 = .ok (.iadd, 1) := by decide +kernel
theorem dL_law_890 : decode cL_law 890 = .ok (.iaload, 1) := by decide +kernel
theorem dL_law_891 : decode cL_law 891 = .ok (.invokevirtual 115, 3) := by decide +kernel
theorem dL_law_894 : decode cL_law 894 = .ok (.if_icmp .eq 51, 3) := by decide +kernel
theorem dL_law_897 : decode cL_law 897 = .ok (.iconst 0, 1) := by decide +kernel
theorem dL_law_898 : decode cL_law 898 = .ok (.ireturn, 1) := by decide +kernel
theorem dL_law_899 : decode cL_law 899 = .ok (.aload_n 1, 1) := by decide +kernel
theorem dL_law_900 : decode cL_law 900 = .ok (.aload_n 0, 1) := by decide +kernel
theorem dL_law_901 : decode cL_law 901 = .ok (.iload_n 3, 1) := by decide +kernel
theorem dL_law_902 : decode cL_law 902 = .ok (.iconst 1, 1) := by decide +kernel
theorem dL_law_903 : decode cL_law 903 = .ok (.iadd, 1) := by decide +kernel
theorem dL_law_904 : decode cL_law 904 = .ok (.iaload, 1) := by decide +kernel
theorem dL_law_905 : decode cL_law 905 = .ok (.invokevirtual 116, 3) := by decide +kernel
theorem dL_law_908 : decode cL_law 908 = .ok (.aload_n 2, 1) := by decide +kernel
theorem dL_law_909 : decode cL_law 909 = .ok (.aload_n 0, 1) := by decide +kernel
theorem dL_law_910 : decode cL_law 910 = .ok (.iload_n 3, 1) := by decide +kernel
theorem dL_law_911 : decode cL_law 911 = .ok (.iconst 1, 1) := by decide +kernel
theorem dL_law_912 : decode cL_law 912 = .ok (.iadd, 1) := by decide +kernel
theorem dL_law_913 : decode cL_law 913 = .ok (.iaload, 1) := by decide +kernel
theorem dL_law_914 : decode cL_law 914 = .ok (.invokevirtual 119, 3) := by decide +kernel
theorem dL_law_917 : decode cL_law 917 = .ok (.if_icmp .eq 28, 3) := by decide +kernel
theorem dL_law_920 : decode cL_law 920 = .ok (.iconst 0, 1) := by decide +kernel
theorem dL_law_921 : decode cL_law 921 = .ok (.ireturn, 1) := by decide +kernel
theorem dL_law_922 : decode cL_law 922 = .ok (.aload_n 1, 1) := by decide +kernel
theorem dL_law_923 : decode cL_law 923 = .ok (.aload_n 0, 1) := by decide +kernel
theorem dL_law_924 : decode cL_law 924 = .ok (.iload_n 3, 1) := by decide +kernel
theorem dL_law_925 : decode cL_law 925 = .ok (.iconst 1, 1) := by decide +kernel
theorem dL_law_926 : decode cL_law 926 = .ok (.iadd, 1) := by decide +kernel
theorem dL_law_927 : decode cL_law 927 = .ok (.iaload, 1) := by decide +kernel
theorem dL_law_928 : decode cL_law 928 = .ok (.invokevirtual 120, 3) := by decide +kernel
theorem dL_law_931 : decode cL_law 931 = .ok (.aload_n 2, 1) := by decide +kernel
theorem dL_law_932 : decode cL_law 932 = .ok (.aload_n 0, 1) := by decide +kernel
theorem dL_law_933 : decode cL_law 933 = .ok (.iload_n 3, 1) := by decide +kernel
theorem dL_law_934 : decode cL_law 934 = .ok (.iconst 1, 1) := by decide +kernel
theorem dL_law_935 : decode cL_law 935 = .ok (.iadd, 1) := by decide +kernel
theorem dL_law_936 : decode cL_law 936 = .ok (.iaload, 1) := by decide +kernel
theorem dL_law_937 : decode cL_law 937 = .ok (.invokevirtual 123, 3) := by decide +kernel
theorem dL_law_940 : decode cL_law 940 = .ok (.if_icmp .eq 5, 3) := by decide +kernel
theorem dL_law_943 : decode cL_law 943 = .ok (.iconst 0, 1) := by decide +kernel
theorem dL_law_944 : decode cL_law 944 = .ok (.ireturn, 1) := by decide +kernel
theorem dL_law_945 : decode cL_law 945 = .ok (.iinc 3 8, 3) := by decide +kernel
theorem dL_law_948 : decode cL_law 948 = .ok (.goto (-930), 3) := by decide +kernel
theorem dL_law_951 : decode cL_law 951 = .ok (.iconst 1, 1) := by decide +kernel
theorem dL_law_952 : decode cL_law 952 = .ok (.ireturn, 1) := by decide +kernel
