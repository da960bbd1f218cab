theorem dX0_init_0 : decode cX0_init 0 = .ok (.aload_n 0, 1) := by decide +kernel
theorem dX0_init_1 : decode cX0_init 1 = .ok (.invokespecial 3, 3) := by decide +kernel
theorem dX0_init_4 : decode cX0_init 4 = .ok (.aload_n 0, 1) := by decide +kernel
theorem dX0_init_5 : decode cX0_init 5 = .ok (.bipush 24, 2) := by decide +kernel
theorem dX0_init_7 : decode cX0_init 7 = .ok (.newarray .int, 2) := by decide +kernel
theorem dX0_init_9 : decode cX0_init 9 = .ok (.putfield 9, 3) := by decide +kernel
theorem dX0_init_12 : decode cX0_init 12 = .ok (.aload_n 0, 1) := by decide +kernel
theorem dX0_init_13 : decode cX0_init 13 = .ok (.bipush 24, 2) := by decide +kernel
theorem dX0_init_15 : decode cX0_init 15 = .ok (.newarray .int, 2) := by decide +kernel
theorem dX0_init_17 : decode cX0_init 17 = .ok (.putfield 15, 3) := by decide +kernel
theorem dX0_init_20 : decode cX0_init 20 = .ok (.aload_n 0, 1) := by decide +kernel
theorem dX0_init_21 : decode cX0_init 21 = .ok (.bipush 24, 2) := by decide +kernel
theorem dX0_init_23 : decode cX0_init 23 = .ok (.newarray .int, 2) := by decide +kernel
theorem dX0_init_25 : decode cX0_init 25 = .ok (.putfield 18, 3) := by decide +kernel
theorem dX0_init_28 : decode cX0_init 28 = .ok (.return_, 1) := by decide +kernel
theorem dX0_isOne_0 : decode cX0_isOne 0 = .ok (.iload_n 1, 1) := by decide +kernel
theorem dX0_isOne_1 : decode cX0_isOne 1 = .ok (.ifCond .lt 21, 3) := by decide +kernel
theorem dX0_isOne_4 : decode cX0_isOne 4 = .ok (.iload_n 1, 1) := by decide +kernel
theorem dX0_isOne_5 : decode cX0_isOne 5 = .ok (.aload_n 0, 1) := by decide +kernel
theorem dX0_isOne_6 : decode cX0_isOne 6 = .ok (.getfield 21, 3) := by decide +kernel
theorem dX0_isOne_9 : decode cX0_isOne 9 = .ok (.if_icmp .ge 13, 3) := by decide +kernel
theorem dX0_isOne_12 : decode cX0_isOne 12 = .ok (.iload_n 1, 1) := by decide +kernel
theorem dX0_isOne_13 : decode cX0_isOne 13 = .ok (.bipush 24, 2) := by decide +kernel
theorem dX0_isOne_15 : decode cX0_isOne 15 = .ok (.if_icmp .ge 7, 3) := by decide +kernel
theorem dX0_isOne_18 : decode cX0_isOne 18 = .ok (.iconst 1, 1) := by decide +kernel
theorem dX0_isOne_19 : decode cX0_isOne 19 = .ok (.goto 4, 3) := by decide +kernel
theorem dX0_isOne_22 : decode cX0_isOne 22 = .ok (.iconst 0, 1) := by decide +kernel
theorem dX0_isOne_23 : decode cX0_isOne 23 = .ok (.ireturn, 1) := by decide +kernel
theorem dX0_numberOf_0 : decode cX0_numberOf 0 = .ok (.iconst 0, 1) := by decide +kernel
theorem dX0_numberOf_1 : decode cX0_numberOf 1 = .ok (.istore 4, 2) := by decide +kernel
theorem dX0_numberOf_3 : decode cX0_numberOf 3 = .ok (.iload 4, 2) := by decide +kernel
theorem dX0_numberOf_5 : decode cX0_numberOf 5 = .ok (.aload_n 0, 1) := by decide +kernel
theorem dX0_numberOf_6 : decode cX0_numberOf 6 = .ok (.getfield 21, 3) := by decide +kernel
theorem dX0_numberOf_9 : decode cX0_numberOf 9 = .ok (.if_icmp .ge 52, 3) := by decide +kernel
theorem dX0_numberOf_12 : decode cX0_numberOf 12 = .ok (.iload 4, 2) := by decide +kernel
theorem dX0_numberOf_14 : decode cX0_numberOf 14 = .ok (.bipush 24, 2) := by decide +kernel
theorem dX0_numberOf_16 : decode cX0_numberOf 16 = .ok (.if_icmp .ge 45, 3) := by decide +kernel
theorem dX0_numberOf_19 : decode cX0_numberOf 19 = .ok (.aload_n 0, 1) := by decide +kernel
theorem dX0_numberOf_20 : decode cX0_numberOf 20 = .ok (.getfield 9, 3) := by decide +kernel
theorem dX0_numberOf_23 : decode cX0_numberOf 23 = .ok (.iload 4, 2) := by decide +kernel
theorem dX0_numberOf_25 : decode cX0_numberOf 25 = .ok (.iaload, 1) := by decide +kernel
theorem dX0_numberOf_26 : decode cX0_numberOf 26 = .ok (.iload_n 1, 1) := by decide +kernel
theorem dX0_numberOf_27 : decode cX0_numberOf 27 = .ok (.if_icmp .ne 28, 3) := by decide +kernel
theorem dX0_numberOf_30 : decode cX0_numberOf 30 = .ok (.aload_n 0, 1) := by decide +kernel
theorem dX0_numberOf_31 : decode cX0_numberOf 31 = .ok (.getfield 15, 3) := by decide +kernel
theorem dX0_numberOf_34 : decode cX0_numberOf 34 = .ok (.iload 4, 2) := by decide +kernel
theorem dX0_numberOf_36 : decode cX0_numberOf 36 = .ok (.iaload, 1) := by decide +kernel
theorem dX0_numberOf_37 : decode cX0_numberOf 37 = .ok (.iload_n 2, 1) := by decide +kernel
theorem dX0_numberOf_38 : decode cX0_numberOf 38 = .ok (.if_icmp .ne 17, 3) := by decide +kernel
theorem dX0_numberOf_41 : decode cX0_numberOf 41 = .ok (.aload_n 0, 1) := by decide +kernel
theorem dX0_numberOf_42 : decode cX0_numberOf 42 = .ok (.getfield 18, 3) := by decide +kernel
theorem dX0_numberOf_45 : decode cX0_numberOf 45 = .ok (.iload 4, 2) := by decide +kernel
theorem dX0_numberOf_47 : decode cX0_numberOf 47 = .ok (.iaload, 1) := by decide +kernel
theorem dX0_numberOf_48 : decode cX0_numberOf 48 = .ok (.iload_n 3, 1) := by decide +kernel
theorem dX0_numberOf_49 : decode cX0_numberOf 49 = .ok (.if_icmp .ne 6, 3) := by decide +kernel
theorem dX0_numberOf_52 : decode cX0_numberOf 52 = .ok (.iload 4, 2) := by decide +kernel
theorem dX0_numberOf_54 : decode cX0_numberOf 54 = .ok (.ireturn, 1) := by decide +kernel
theorem dX0_numberOf_55 : decode cX0_numberOf 55 = .ok (.iinc 4 1, 3) := by decide +kernel
theorem dX0_numberOf_58 : decode cX0_numberOf 58 = .ok (.goto (-55), 3) := by decide +kernel
theorem dX0_numberOf_61 : decode cX0_numberOf 61 = .ok (.aload_n 0, 1) := by decide +kernel
theorem dX0_numberOf_62 : decode cX0_numberOf 62 = .ok (.getfield 21, 3) := by decide +kernel
theorem dX0_numberOf_65 : decode cX0_numberOf 65 = .ok (.ifCond .lt 12, 3) := by decide +kernel
theorem dX0_numberOf_68 : decode cX0_numberOf 68 = .ok (.aload_n 0, 1) := by decide +kernel
theorem dX0_numberOf_69 : decode cX0_numberOf 69 = .ok (.getfield 21, 3) := by decide +kernel
theorem dX0_numberOf_72 : decode cX0_numberOf 72 = .ok (.bipush 24, 2) := by decide +kernel
theorem dX0_numberOf_74 : decode cX0_numberOf 74 = .ok (.if_icmp .lt 5, 3) := by decide +kernel
theorem dX0_numberOf_77 : decode cX0_numberOf 77 = .ok (.iconst (-1), 1) := by decide +kernel
theorem dX0_numberOf_78 : decode cX0_numberOf 78 = .ok (.ireturn, 1) := by decide +kernel
theorem dX0_numberOf_79 : decode cX0_numberOf 79 = .ok (.aload_n 0, 1) := by decide +kernel
theorem dX0_numberOf_80 : decode cX0_numberOf 80 = .ok (.getfield 9, 3) := by decide +kernel
theorem dX0_numberOf_83 : decode cX0_numberOf 83 = .ok (.aload_n 0, 1) := by decide +kernel
theorem dX0_numberOf_84 : decode cX0_numberOf 84 = .ok (.getfield 21, 3) := by decide +kernel
theorem dX0_numberOf_87 : decode cX0_numberOf 87 = .ok (.iload_n 1, 1) := by decide +kernel
theorem dX0_numberOf_88 : decode cX0_numberOf 88 = .ok (.iastore, 1) := by decide +kernel
theorem dX0_numberOf_89 : decode cX0_numberOf 89 = .ok (.aload_n 0, 1) := by decide +kernel
theorem dX0_numberOf_90 : decode cX0_numberOf 90 = .ok (.getfield 15, 3) := by decide +kernel
theorem dX0_numberOf_93 : decode cX0_numberOf 93 = .ok (.aload_n 0, 1) := by decide +kernel
theorem dX0_numberOf_94 : decode cX0_numberOf 94 = .ok (.getfield 21, 3) := by decide +kernel
theorem dX0_numberOf_97 : decode cX0_numberOf 97 = .ok (.iload_n 2, 1) := by decide +kernel
theorem dX0_numberOf_98 : decode cX0_numberOf 98 = .ok (.iastore, 1) := by decide +kernel
theorem dX0_numberOf_99 : decode cX0_numberOf 99 = .ok (.aload_n 0, 1) := by decide +kernel
theorem dX0_numberOf_100 : decode cX0_numberOf 100 = .ok (.getfield 18, 3) := by decide +kernel
theorem dX0_numberOf_103 : decode cX0_numberOf 103 = .ok (.aload_n 0, 1) := by decide +kernel
theorem dX0_numberOf_104 : decode cX0_numberOf 104 = .ok (.getfield 21, 3) := by decide +kernel
theorem dX0_numberOf_107 : decode cX0_numberOf 107 = .ok (.iload_n 3, 1) := by decide +kernel
theorem dX0_numberOf_108 : decode cX0_numberOf 108 = .ok (.iastore, 1) := by decide +kernel
theorem dX0_numberOf_109 : decode cX0_numberOf 109 = .ok (.aload_n 0, 1) := by decide +kernel
theorem dX0_numberOf_110 : decode cX0_numberOf 110 = .ok (.dup, 1) := by decide +kernel
theorem dX0_numberOf_111 : decode cX0_numberOf 111 = .ok (.getfield 21, 3) := by decide +kernel
theorem dX0_numberOf_114 : decode cX0_numberOf 114 = .ok (.iconst 1, 1) := by decide +kernel
theorem dX0_numberOf_115 : decode cX0_numberOf 115 = .ok (.iadd, 1) := by decide +kernel
theorem dX0_numberOf_116 : decode cX0_numberOf 116 = .ok (.putfield 21, 3) := by decide +kernel
theorem dX0_numberOf_119 : decode cX0_numberOf 119 = .ok (.aload_n 0, 1) := by decide +kernel
theorem dX0_numberOf_120 : decode cX0_numberOf 120 = .ok (.getfield 21, 3) := by decide +kernel
theorem dX0_numberOf_123 : decode cX0_numberOf 123 = .ok (.iconst 1, 1) := by decide +kernel
theorem dX0_numberOf_124 : decode cX0_numberOf 124 = .ok (.isub, 1) := by decide +kernel
theorem dX0_numberOf_125 : decode cX0_numberOf 125 = .ok (.ireturn, 1) := by decide +kernel
theorem dX0_isRisky_0 : decode cX0_isRisky 0 = .ok (.aload_n 0, 1) := by decide +kernel
theorem dX0_isRisky_1 : decode cX0_isRisky 1 = .ok (.iload_n 1, 1) := by decide +kernel
theorem dX0_isRisky_2 : decode cX0_isRisky 2 = .ok (.invokevirtual 25, 3) := by decide +kernel
theorem dX0_isRisky_5 : decode cX0_isRisky 5 = .ok (.ifCond .eq 25, 3) := by decide +kernel
theorem dX0_isRisky_8 : decode cX0_isRisky 8 = .ok (.aload_n 0, 1) := by decide +kernel
theorem dX0_isRisky_9 : decode cX0_isRisky 9 = .ok (.getfield 9, 3) := by decide +kernel
theorem dX0_isRisky_12 : decode cX0_isRisky 12 = .ok (.iload_n 1, 1) := by decide +kernel
theorem dX0_isRisky_13 : decode cX0_isRisky 13 = .ok (.iaload, 1) := by decide +kernel
theorem dX0_isRisky_14 : decode cX0_isRisky 14 = .ok (.bipush 47, 2) := by decide +kernel
theorem dX0_isRisky_16 : decode cX0_isRisky 16 = .ok (.if_icmp .eq 16, 3) := by decide +kernel
theorem dX0_isRisky_19 : decode cX0_isRisky 19 = .ok (.aload_n 0, 1) := by decide +kernel
theorem dX0_isRisky_20 : decode cX0_isRisky 20 = .ok (.getfield 9, 3) := by decide +kernel
theorem dX0_isRisky_23 : decode cX0_isRisky 23 = .ok (.iload_n 1, 1) := by decide +kernel
theorem dX0_isRisky_24 : decode cX0_isRisky 24 = .ok (.iaload, 1) := by decide +kernel
theorem dX0_isRisky_25 : decode cX0_isRisky 25 = .ok (.bipush 37, 2) := by decide +kernel
theorem dX0_isRisky_27 : decode cX0_isRisky 27 = .ok (.if_icmp .eq 5, 3) := by decide +kernel
theorem dX0_isRisky_30 : decode cX0_isRisky 30 = .ok (.iconst 0, 1) := by decide +kernel
theorem dX0_isRisky_31 : decode cX0_isRisky 31 = .ok (.ireturn, 1) := by decide +kernel
theorem dX0_isRisky_32 : decode cX0_isRisky 32 = .ok (.aload_n 0, 1) := by decide +kernel
theorem dX0_isRisky_33 : decode cX0_isRisky 33 = .ok (.getfield 18, 3) := by decide +kernel
theorem dX0_isRisky_36 : decode cX0_isRisky 36 = .ok (.iload_n 1, 1) := by decide +kernel
theorem dX0_isRisky_37 : decode cX0_isRisky 37 = .ok (.iaload, 1) := by decide +kernel
theorem dX0_isRisky_38 : decode cX0_isRisky 38 = .ok (.bipush 26, 2) := by decide +kernel
theorem dX0_isRisky_40 : decode cX0_isRisky 40 = .ok (.if_icmp .gt 7, 3) := by decide +kernel
theorem dX0_isRisky_43 : decode cX0_isRisky 43 = .ok (.iconst 1, 1) := by decide +kernel
theorem dX0_isRisky_44 : decode cX0_isRisky 44 = .ok (.goto 4, 3) := by decide +kernel
theorem dX0_isRisky_47 : decode cX0_isRisky 47 = .ok (.iconst 0, 1) := by decide +kernel
theorem dX0_isRisky_48 : decode cX0_isRisky 48 = .ok (.ireturn, 1) := by decide +kernel
theorem dX0_lettersOf_0 : decode cX0_lettersOf 0 = .ok (.aload_n 0, 1) := by decide +kernel
theorem dX0_lettersOf_1 : decode cX0_lettersOf 1 = .ok (.iload_n 1, 1) := by decide +kernel
theorem dX0_lettersOf_2 : decode cX0_lettersOf 2 = .ok (.invokevirtual 25, 3) := by decide +kernel
theorem dX0_lettersOf_5 : decode cX0_lettersOf 5 = .ok (.ifCond .eq 25, 3) := by decide +kernel
theorem dX0_lettersOf_8 : decode cX0_lettersOf 8 = .ok (.aload_n 0, 1) := by decide +kernel
theorem dX0_lettersOf_9 : decode cX0_lettersOf 9 = .ok (.getfield 15, 3) := by decide +kernel
theorem dX0_lettersOf_12 : decode cX0_lettersOf 12 = .ok (.iload_n 1, 1) := by decide +kernel
theorem dX0_lettersOf_13 : decode cX0_lettersOf 13 = .ok (.iaload, 1) := by decide +kernel
theorem dX0_lettersOf_14 : decode cX0_lettersOf 14 = .ok (.invokestatic 29, 3) := by decide +kernel
theorem dX0_lettersOf_17 : decode cX0_lettersOf 17 = .ok (.aload_n 0, 1) := by decide +kernel
theorem dX0_lettersOf_18 : decode cX0_lettersOf 18 = .ok (.getfield 18, 3) := by decide +kernel
theorem dX0_lettersOf_21 : decode cX0_lettersOf 21 = .ok (.iload_n 1, 1) := by decide +kernel
theorem dX0_lettersOf_22 : decode cX0_lettersOf 22 = .ok (.iaload, 1) := by decide +kernel
theorem dX0_lettersOf_23 : decode cX0_lettersOf 23 = .ok (.invokestatic 29, 3) := by decide +kernel
theorem dX0_lettersOf_26 : decode cX0_lettersOf 26 = .ok (.ior, 1) := by decide +kernel
theorem dX0_lettersOf_27 : decode cX0_lettersOf 27 = .ok (.goto 4, 3) := by decide +kernel
theorem dX0_lettersOf_30 : decode cX0_lettersOf 30 = .ok (.iconst 0, 1) := by decide +kernel
theorem dX0_lettersOf_31 : decode cX0_lettersOf 31 = .ok (.ireturn, 1) := by decide +kernel
theorem dX0_letterBit_0 : decode cX0_letterBit 0 = .ok (.iload_n 0, 1) := by decide +kernel
theorem dX0_letterBit_1 : decode cX0_letterBit 1 = .ok (.ifCond .lt 15, 3) := by decide +kernel
theorem dX0_letterBit_4 : decode cX0_letterBit 4 = .ok (.iload_n 0, 1) := by decide +kernel
theorem dX0_letterBit_5 : decode cX0_letterBit 5 = .ok (.bipush 26, 2) := by decide +kernel
theorem dX0_letterBit_7 : decode cX0_letterBit 7 = .ok (.if_icmp .ge 9, 3) := by decide +kernel
theorem dX0_letterBit_10 : decode cX0_letterBit 10 = .ok (.iconst 1, 1) := by decide +kernel
theorem dX0_letterBit_11 : decode cX0_letterBit 11 = .ok (.iload_n 0, 1) := by decide +kernel
theorem dX0_letterBit_12 : decode cX0_letterBit 12 = .ok (.ishl, 1) := by decide +kernel
theorem dX0_letterBit_13 : decode cX0_letterBit 13 = .ok (.goto 4, 3) := by decide +kernel
theorem dX0_letterBit_16 : decode cX0_letterBit 16 = .ok (.iconst 0, 1) := by decide +kernel
theorem dX0_letterBit_17 : decode cX0_letterBit 17 = .ok (.ireturn, 1) := by decide +kernel
theorem dX0_copyFrom_0 : decode cX0_copyFrom 0 = .ok (.aload_n 1, 1) := by decide +kernel
theorem dX0_copyFrom_1 : decode cX0_copyFrom 1 = .ok (.getfield 9, 3) := by decide +kernel
theorem dX0_copyFrom_4 : decode cX0_copyFrom 4 = .ok (.iconst 0, 1) := by decide +kernel
theorem dX0_copyFrom_5 : decode cX0_copyFrom 5 = .ok (.aload_n 0, 1) := by decide +kernel
theorem dX0_copyFrom_6 : decode cX0_copyFrom 6 = .ok (.getfield 9, 3) := by decide +kernel
theorem dX0_copyFrom_9 : decode cX0_copyFrom 9 = .ok (.iconst 0, 1) := by decide +kernel
theorem dX0_copyFrom_10 : decode cX0_copyFrom 10 = .ok (.bipush 24, 2) := by decide +kernel
theorem dX0_copyFrom_12 : decode cX0_copyFrom 12 = .ok (.invokestatic 33, 3) := by decide +kernel
theorem dX0_copyFrom_15 : decode cX0_copyFrom 15 = .ok (.aload_n 1, 1) := by decide +kernel
theorem dX0_copyFrom_16 : decode cX0_copyFrom 16 = .ok (.getfield 15, 3) := by decide +kernel
theorem dX0_copyFrom_19 : decode cX0_copyFrom 19 = .ok (.iconst 0, 1) := by decide +kernel
theorem dX0_copyFrom_20 : decode cX0_copyFrom 20 = .ok (.aload_n 0, 1) := by decide +kernel
theorem dX0_copyFrom_21 : decode cX0_copyFrom 21 = .ok (.getfield 15, 3) := by decide +kernel
theorem dX0_copyFrom_24 : decode cX0_copyFrom 24 = .ok (.iconst 0, 1) := by decide +kernel
theorem dX0_copyFrom_25 : decode cX0_copyFrom 25 = .ok (.bipush 24, 2) := by decide +kernel
theorem dX0_copyFrom_27 : decode cX0_copyFrom 27 = .ok (.invokestatic 33, 3) := by decide +kernel
theorem dX0_copyFrom_30 : decode cX0_copyFrom 30 = .ok (.aload_n 1, 1) := by decide +kernel
theorem dX0_copyFrom_31 : decode cX0_copyFrom 31 = .ok (.getfield 18, 3) := by decide +kernel
theorem dX0_copyFrom_34 : decode cX0_copyFrom 34 = .ok (.iconst 0, 1) := by decide +kernel
theorem dX0_copyFrom_35 : decode cX0_copyFrom 35 = .ok (.aload_n 0, 1) := by decide +kernel
theorem dX0_copyFrom_36 : decode cX0_copyFrom 36 = .ok (.getfield 18, 3) := by decide +kernel
theorem dX0_copyFrom_39 : decode cX0_copyFrom 39 = .ok (.iconst 0, 1) := by decide +kernel
theorem dX0_copyFrom_40 : decode cX0_copyFrom 40 = .ok (.bipush 24, 2) := by decide +kernel
theorem dX0_copyFrom_42 : decode cX0_copyFrom 42 = .ok (.invokestatic 33, 3) := by decide +kernel
theorem dX0_copyFrom_45 : decode cX0_copyFrom 45 = .ok (.aload_n 0, 1) := by decide +kernel
theorem dX0_copyFrom_46 : decode cX0_copyFrom 46 = .ok (.aload_n 1, 1) := by decide +kernel
theorem dX0_copyFrom_47 : decode cX0_copyFrom 47 = .ok (.getfield 21, 3) := by decide +kernel
theorem dX0_copyFrom_50 : decode cX0_copyFrom 50 = .ok (.putfield 21, 3) := by decide +kernel
theorem dX0_copyFrom_53 : decode cX0_copyFrom 53 = .ok (.return_, 1) := by decide +kernel
theorem dX1_init_0 : decode cX1_init 0 = .ok (.aload_n 0, 1) := by decide +kernel
theorem dX1_init_1 : decode cX1_init 1 = .ok (.invokespecial 3, 3) := by decide +kernel
theorem dX1_init_4 : decode cX1_init 4 = .ok (.aload_n 0, 1) := by decide +kernel
theorem dX1_init_5 : decode cX1_init 5 = .ok (.new 9, 3) := by decide +kernel
theorem dX1_init_8 : decode cX1_init 8 = .ok (.dup, 1) := by decide +kernel
theorem dX1_init_9 : decode cX1_init 9 = .ok (.invokespecial 11, 3) := by decide +kernel
theorem dX1_init_12 : decode cX1_init 12 = .ok (.putfield 12, 3) := by decide +kernel
theorem dX1_init_15 : decode cX1_init 15 = .ok (.aload_n 0, 1) := by decide +kernel
theorem dX1_init_16 : decode cX1_init 16 = .ok (.sipush 128, 3) := by decide +kernel
theorem dX1_init_19 : decode cX1_init 19 = .ok (.newarray .int, 2) := by decide +kernel
theorem dX1_init_21 : decode cX1_init 21 = .ok (.putfield 18, 3) := by decide +kernel
theorem dX1_init_24 : decode cX1_init 24 = .ok (.aload_n 0, 1) := by decide +kernel
theorem dX1_init_25 : decode cX1_init 25 = .ok (.sipush 128, 3) := by decide +kernel
theorem dX1_init_28 : decode cX1_init 28 = .ok (.newarray .int, 2) := by decide +kernel
theorem dX1_init_30 : decode cX1_init 30 = .ok (.putfield 22, 3) := by decide +kernel
theorem dX1_init_33 : decode cX1_init 33 = .ok (.aload_n 0, 1) := by decide +kernel
theorem dX1_init_34 : decode cX1_init 34 = .ok (.sipush 128, 3) := by decide +kernel
theorem dX1_init_37 : decode cX1_init 37 = .ok (.newarray .int, 2) := by decide +kernel
theorem dX1_init_39 : decode cX1_init 39 = .ok (.putfield 25, 3) := by decide +kernel
theorem dX1_init_42 : decode cX1_init 42 = .ok (.aload_n 0, 1) := by decide +kernel
theorem dX1_init_43 : decode cX1_init 43 = .ok (.sipush 128, 3) := by decide +kernel
theorem dX1_init_46 : decode cX1_init 46 = .ok (.newarray .int, 2) := by decide +kernel
theorem dX1_init_48 : decode cX1_init 48 = .ok (.putfield 28, 3) := by decide +kernel
theorem dX1_init_51 : decode cX1_init 51 = .ok (.aload_n 0, 1) := by decide +kernel
theorem dX1_init_52 : decode cX1_init 52 = .ok (.sipush 128, 3) := by decide +kernel
theorem dX1_init_55 : decode cX1_init 55 = .ok (.newarray .int, 2) := by decide +kernel
theorem dX1_init_57 : decode cX1_init 57 = .ok (.putfield 31, 3) := by decide +kernel
theorem dX1_init_60 : decode cX1_init 60 = .ok (.aload_n 0, 1) := by decide +kernel
theorem dX1_init_61 : decode cX1_init 61 = .ok (.sipush 128, 3) := by decide +kernel
theorem dX1_init_64 : decode cX1_init 64 = .ok (.newarray .int, 2) := by decide +kernel
theorem dX1_init_66 : decode cX1_init 66 = .ok (.putfield 34, 3) := by decide +kernel
theorem dX1_init_69 : decode cX1_init 69 = .ok (.aload_n 0, 1) := by decide +kernel
theorem dX1_init_70 : decode cX1_init 70 = .ok (.sipush 128, 3) := by decide +kernel
theorem dX1_init_73 : decode cX1_init 73 = .ok (.newarray .int, 2) := by decide +kernel
theorem dX1_init_75 : decode cX1_init 75 = .ok (.putfield 37, 3) := by decide +kernel
theorem dX1_init_78 : decode cX1_init 78 = .ok (.aload_n 0, 1) := by decide +kernel
theorem dX1_init_79 : decode cX1_init 79 = .ok (.sipush 128, 3) := by decide +kernel
theorem dX1_init_82 : decode cX1_init 82 = .ok (.newarray .int, 2) := by decide +kernel
theorem dX1_init_84 : decode cX1_init 84 = .ok (.putfield 40, 3) := by decide +kernel
theorem dX1_init_87 : decode cX1_init 87 = .ok (.aload_n 0, 1) := by decide +kernel
theorem dX1_init_88 : decode cX1_init 88 = .ok (.sipush 128, 3) := by decide +kernel
theorem dX1_init_91 : decode cX1_init 91 = .ok (.newarray .int, 2) := by decide +kernel
theorem dX1_init_93 : decode cX1_init 93 = .ok (.putfield 43, 3) := by decide +kernel
theorem dX1_init_96 : decode cX1_init 96 = .ok (.aload_n 0, 1) := by decide +kernel
theorem dX1_init_97 : decode cX1_init 97 = .ok (.sipush 128, 3) := by decide +kernel
theorem dX1_init_100 : decode cX1_init 100 = .ok (.newarray .int, 2) := by decide +kernel
theorem dX1_init_102 : decode cX1_init 102 = .ok (.putfield 46, 3) := by decide +kernel
theorem dX1_init_105 : decode cX1_init 105 = .ok (.aload_n 0, 1) := by decide +kernel
theorem dX1_init_106 : decode cX1_init 106 = .ok (.sipush 128, 3) := by decide +kernel
theorem dX1_init_109 : decode cX1_init 109 = .ok (.newarray .int, 2) := by decide +kernel
theorem dX1_init_111 : decode cX1_init 111 = .ok (.putfield 49, 3) := by decide +kernel
theorem dX1_init_114 : decode cX1_init 114 = .ok (.return_, 1) := by decide +kernel
theorem dX1_build_0 : decode cX1_build 0 = .ok (.aload_n 0, 1) := by decide +kernel
theorem dX1_build_1 : decode cX1_build 1 = .ok (.iconst 1, 1) := by decide +kernel
theorem dX1_build_2 : decode cX1_build 2 = .ok (.aload_n 1, 1) := by decide +kernel
theorem dX1_build_3 : decode cX1_build 3 = .ok (.getfield 52, 3) := by decide +kernel
theorem dX1_build_6 : decode cX1_build 6 = .ok (.getfield 58, 3) := by decide +kernel
theorem dX1_build_9 : decode cX1_build 9 = .ok (.ishl, 1) := by decide +kernel
theorem dX1_build_10 : decode cX1_build 10 = .ok (.iconst 1, 1) := by decide +kernel
theorem dX1_build_11 : decode cX1_build 11 = .ok (.isub, 1) := by decide +kernel
theorem dX1_build_12 : decode cX1_build 12 = .ok (.putfield 64, 3) := by decide +kernel
theorem dX1_build_15 : decode cX1_build 15 = .ok (.iconst 0, 1) := by decide +kernel
theorem dX1_build_16 : decode cX1_build 16 = .ok (.istore_n 2, 1) := by decide +kernel
theorem dX1_build_17 : decode cX1_build 17 = .ok (.iload_n 2, 1) := by decide +kernel
theorem dX1_build_18 : decode cX1_build 18 = .ok (.aload_n 1, 1) := by decide +kernel
theorem dX1_build_19 : decode cX1_build 19 = .ok (.getfield 67, 3) := by decide +kernel
theorem dX1_build_22 : decode cX1_build 22 = .ok (.if_icmp .ge 31, 3) := by decide +kernel
theorem dX1_build_25 : decode cX1_build 25 = .ok (.aload_n 0, 1) := by decide +kernel
theorem dX1_build_26 : decode cX1_build 26 = .ok (.getfield 18, 3) := by decide +kernel
theorem dX1_build_29 : decode cX1_build 29 = .ok (.iload_n 2, 1) := by decide +kernel
theorem dX1_build_30 : decode cX1_build 30 = .ok (.aload_n 1, 1) := by decide +kernel
theorem dX1_build_31 : decode cX1_build 31 = .ok (.iload_n 2, 1) := by decide +kernel
theorem dX1_build_32 : decode cX1_build 32 = .ok (.invokestatic 70, 3) := by decide +kernel
theorem dX1_build_35 : decode cX1_build 35 = .ok (.iastore, 1) := by decide +kernel
theorem dX1_build_36 : decode cX1_build 36 = .ok (.aload_n 0, 1) := by decide +kernel
theorem dX1_build_37 : decode cX1_build 37 = .ok (.getfield 22, 3) := by decide +kernel
theorem dX1_build_40 : decode cX1_build 40 = .ok (.iload_n 2, 1) := by decide +kernel
theorem dX1_build_41 : decode cX1_build 41 = .ok (.aload_n 1, 1) := by decide +kernel
theorem dX1_build_42 : decode cX1_build 42 = .ok (.iload_n 2, 1) := by decide +kernel
theorem dX1_build_43 : decode cX1_build 43 = .ok (.invokestatic 74, 3) := by decide +kernel
theorem dX1_build_46 : decode cX1_build 46 = .ok (.iastore, 1) := by decide +kernel
theorem dX1_build_47 : decode cX1_build 47 = .ok (.iinc 2 1, 3) := by decide +kernel
theorem dX1_build_50 : decode cX1_build 50 = .ok (.goto (-33), 3) := by decide +kernel
theorem dX1_build_53 : decode cX1_build 53 = .ok (.aload_n 0, 1) := by decide +kernel
theorem dX1_build_54 : decode cX1_build 54 = .ok (.aload_n 1, 1) := by decide +kernel
theorem dX1_build_55 : decode cX1_build 55 = .ok (.invokevirtual 77, 3) := by decide +kernel
theorem dX1_build_58 : decode cX1_build 58 = .ok (.aload_n 0, 1) := by decide +kernel
theorem dX1_build_59 : decode cX1_build 59 = .ok (.aload_n 1, 1) := by decide +kernel
theorem dX1_build_60 : decode cX1_build 60 = .ok (.invokevirtual 81, 3) := by decide +kernel
theorem dX1_build_63 : decode cX1_build 63 = .ok (.aload_n 0, 1) := by decide +kernel
theorem dX1_build_64 : decode cX1_build 64 = .ok (.aload_n 1, 1) := by decide +kernel
theorem dX1_build_65 : decode cX1_build 65 = .ok (.invokevirtual 84, 3) := by decide +kernel
theorem dX1_build_68 : decode cX1_build 68 = .ok (.aload_n 0, 1) := by decide +kernel
theorem dX1_build_69 : decode cX1_build 69 = .ok (.aload_n 1, 1) := by decide +kernel
theorem dX1_build_70 : decode cX1_build 70 = .ok (.invokevirtual 87, 3) := by decide +kernel
theorem dX1_build_73 : decode cX1_build 73 = .ok (.aload_n 0, 1) := by decide +kernel
theorem dX1_build_74 : decode cX1_build 74 = .ok (.aload_n 1, 1) := by decide +kernel
theorem dX1_build_75 : decode cX1_build 75 = .ok (.invokevirtual 90, 3) := by decide +kernel
theorem dX1_build_78 : decode cX1_build 78 = .ok (.aload_n 0, 1) := by decide +kernel
theorem dX1_build_79 : decode cX1_build 79 = .ok (.aload_n 1, 1) := by decide +kernel
theorem dX1_build_80 : decode cX1_build 80 = .ok (.invokevirtual 93, 3) := by decide +kernel
theorem dX1_build_83 : decode cX1_build 83 = .ok (.aload_n 0, 1) := by decide +kernel
theorem dX1_build_84 : decode cX1_build 84 = .ok (.aload_n 1, 1) := by decide +kernel
theorem dX1_build_85 : decode cX1_build 85 = .ok (.invokevirtual 96, 3) := by decide +kernel
theorem dX1_build_88 : decode cX1_build 88 = .ok (.aload_n 0, 1) := by decide +kernel
theorem dX1_build_89 : decode cX1_build 89 = .ok (.aload_n 1, 1) := by decide +kernel
theorem dX1_build_90 : decode cX1_build 90 = .ok (.invokevirtual 99, 3) := by decide +kernel
theorem dX1_build_93 : decode cX1_build 93 = .ok (.aload_n 0, 1) := by decide +kernel
theorem dX1_build_94 : decode cX1_build 94 = .ok (.aload_n 1, 1) := by decide +kernel
theorem dX1_build_95 : decode cX1_build 95 = .ok (.invokevirtual 102, 3) := by decide +kernel
theorem dX1_build_98 : decode cX1_build 98 = .ok (.return_, 1) := by decide +kernel
theorem dX1_usedAt_0 : decode cX1_usedAt 0 = .ok (.aload_n 0, 1) := by decide +kernel
theorem dX1_usedAt_1 : decode cX1_usedAt 1 = .ok (.getfield 105, 3) := by decide +kernel
theorem dX1_usedAt_4 : decode cX1_usedAt 4 = .ok (.iload_n 1, 1) := by decide +kernel
theorem dX1_usedAt_5 : decode cX1_usedAt 5 = .ok (.iaload, 1) := by decide +kernel
theorem dX1_usedAt_6 : decode cX1_usedAt 6 = .ok (.istore_n 2, 1) := by decide +kernel
theorem dX1_usedAt_7 : decode cX1_usedAt 7 = .ok (.aload_n 0, 1) := by decide +kernel
theorem dX1_usedAt_8 : decode cX1_usedAt 8 = .ok (.getfield 52, 3) := by decide +kernel
theorem dX1_usedAt_11 : decode cX1_usedAt 11 = .ok (.iload_n 2, 1) := by decide +kernel
theorem dX1_usedAt_12 : decode cX1_usedAt 12 = .ok (.invokevirtual 108, 3) := by decide +kernel
theorem dX1_usedAt_15 : decode cX1_usedAt 15 = .ok (.ifCond .eq 9, 3) := by decide +kernel
theorem dX1_usedAt_18 : decode cX1_usedAt 18 = .ok (.iconst 1, 1) := by decide +kernel
theorem dX1_usedAt_19 : decode cX1_usedAt 19 = .ok (.iload_n 2, 1) := by decide +kernel
theorem dX1_usedAt_20 : decode cX1_usedAt 20 = .ok (.ishl, 1) := by decide +kernel
theorem dX1_usedAt_21 : decode cX1_usedAt 21 = .ok (.goto 4, 3) := by decide +kernel
theorem dX1_usedAt_24 : decode cX1_usedAt 24 = .ok (.iconst 0, 1) := by decide +kernel
theorem dX1_usedAt_25 : decode cX1_usedAt 25 = .ok (.ireturn, 1) := by decide +kernel
theorem dX1_keptAt_0 : decode cX1_keptAt 0 = .ok (.aload_n 0, 1) := by decide +kernel
theorem dX1_keptAt_1 : decode cX1_keptAt 1 = .ok (.iload_n 1, 1) := by decide +kernel
theorem dX1_keptAt_2 : decode cX1_keptAt 2 = .ok (.invokestatic 112, 3) := by decide +kernel
theorem dX1_keptAt_5 : decode cX1_keptAt 5 = .ok (.invokestatic 115, 3) := by decide +kernel
theorem dX1_keptAt_8 : decode cX1_keptAt 8 = .ok (.istore_n 2, 1) := by decide +kernel
theorem dX1_keptAt_9 : decode cX1_keptAt 9 = .ok (.iconst 0, 1) := by decide +kernel
theorem dX1_keptAt_10 : decode cX1_keptAt 10 = .ok (.istore_n 3, 1) := by decide +kernel
theorem dX1_keptAt_11 : decode cX1_keptAt 11 = .ok (.iconst 0, 1) := by decide +kernel
theorem dX1_keptAt_12 : decode cX1_keptAt 12 = .ok (.istore 4, 2) := by decide +kernel
theorem dX1_keptAt_14 : decode cX1_keptAt 14 = .ok (.iload 4, 2) := by decide +kernel
theorem dX1_keptAt_16 : decode cX1_keptAt 16 = .ok (.aload_n 0, 1) := by decide +kernel
theorem dX1_keptAt_17 : decode cX1_keptAt 17 = .ok (.getfield 52, 3) := by decide +kernel
theorem dX1_keptAt_20 : decode cX1_keptAt 20 = .ok (.getfield 58, 3) := by decide +kernel
theorem dX1_keptAt_23 : decode cX1_keptAt 23 = .ok (.if_icmp .ge 64, 3) := by decide +kernel
theorem dX1_keptAt_26 : decode cX1_keptAt 26 = .ok (.aload_n 0, 1) := by decide +kernel
theorem dX1_keptAt_27 : decode cX1_keptAt 27 = .ok (.getfield 52, 3) := by decide +kernel
theorem dX1_keptAt_30 : decode cX1_keptAt 30 = .ok (.iload 4, 2) := by decide +kernel
theorem dX1_keptAt_32 : decode cX1_keptAt 32 = .ok (.invokevirtual 119, 3) := by decide +kernel
theorem dX1_keptAt_35 : decode cX1_keptAt 35 = .ok (.iload_n 2, 1) := by decide +kernel
theorem dX1_keptAt_36 : decode cX1_keptAt 36 = .ok (.iand, 1) := by decide +kernel
theorem dX1_keptAt_37 : decode cX1_keptAt 37 = .ok (.ifCond .ne 7, 3) := by decide +kernel
theorem dX1_keptAt_40 : decode cX1_keptAt 40 = .ok (.iconst 1, 1) := by decide +kernel
theorem dX1_keptAt_41 : decode cX1_keptAt 41 = .ok (.goto 4, 3) := by decide +kernel
theorem dX1_keptAt_44 : decode cX1_keptAt 44 = .ok (.iconst 0, 1) := by decide +kernel
theorem dX1_keptAt_45 : decode cX1_keptAt 45 = .ok (.istore 5, 2) := by decide +kernel
theorem dX1_keptAt_47 : decode cX1_keptAt 47 = .ok (.iload 5, 2) := by decide +kernel
theorem dX1_keptAt_49 : decode cX1_keptAt 49 = .ok (.ifCond .eq 32, 3) := by decide +kernel
theorem dX1_keptAt_52 : decode cX1_keptAt 52 = .ok (.aload_n 0, 1) := by decide +kernel
theorem dX1_keptAt_53 : decode cX1_keptAt 53 = .ok (.getfield 52, 3) := by decide +kernel
theorem dX1_keptAt_56 : decode cX1_keptAt 56 = .ok (.iload 4, 2) := by decide +kernel
theorem dX1_keptAt_58 : decode cX1_keptAt 58 = .ok (.invokevirtual 122, 3) := by decide +kernel
theorem dX1_keptAt_61 : decode cX1_keptAt 61 = .ok (.ifCond .eq 13, 3) := by decide +kernel
theorem dX1_keptAt_64 : decode cX1_keptAt 64 = .ok (.aload_n 0, 1) := by decide +kernel
theorem dX1_keptAt_65 : decode cX1_keptAt 65 = .ok (.iload_n 1, 1) := by decide +kernel
theorem dX1_keptAt_66 : decode cX1_keptAt 66 = .ok (.iload 4, 2) := by decide +kernel
theorem dX1_keptAt_68 : decode cX1_keptAt 68 = .ok (.invokestatic 125, 3) := by decide +kernel
theorem dX1_keptAt_71 : decode cX1_keptAt 71 = .ok (.ifCond .ne 10, 3) := by decide +kernel
theorem dX1_keptAt_74 : decode cX1_keptAt 74 = .ok (.iload_n 3, 1) := by decide +kernel
theorem dX1_keptAt_75 : decode cX1_keptAt 75 = .ok (.iconst 1, 1) := by decide +kernel
theorem dX1_keptAt_76 : decode cX1_keptAt 76 = .ok (.iload 4, 2) := by decide +kernel
theorem dX1_keptAt_78 : decode cX1_keptAt 78 = .ok (.ishl, 1) := by decide +kernel
theorem dX1_keptAt_79 : decode cX1_keptAt 79 = .ok (.ior, 1) := by decide +kernel
theorem dX1_keptAt_80 : decode cX1_keptAt 80 = .ok (.istore_n 3, 1) := by decide +kernel
theorem dX1_keptAt_81 : decode cX1_keptAt 81 = .ok (.iinc 4 1, 3) := by decide +kernel
theorem dX1_keptAt_84 : decode cX1_keptAt 84 = .ok (.goto (-70), 3) := by decide +kernel
theorem dX1_keptAt_87 : decode cX1_keptAt 87 = .ok (.iload_n 3, 1) := by decide +kernel
theorem dX1_keptAt_88 : decode cX1_keptAt 88 = .ok (.ireturn, 1) := by decide +kernel
theorem dX1_hinders_0 : decode cX1_hinders 0 = .ok (.aload_n 0, 1) := by decide +kernel
theorem dX1_hinders_1 : decode cX1_hinders 1 = .ok (.getfield 105, 3) := by decide +kernel
theorem dX1_hinders_4 : decode cX1_hinders 4 = .ok (.iload_n 1, 1) := by decide +kernel
theorem dX1_hinders_5 : decode cX1_hinders 5 = .ok (.iaload, 1) := by decide +kernel
theorem dX1_hinders_6 : decode cX1_hinders 6 = .ok (.istore_n 3, 1) := by decide +kernel
theorem dX1_hinders_7 : decode cX1_hinders 7 = .ok (.aload_n 0, 1) := by decide +kernel
theorem dX1_hinders_8 : decode cX1_hinders 8 = .ok (.getfield 129, 3) := by decide +kernel
theorem dX1_hinders_11 : decode cX1_hinders 11 = .ok (.iload_n 1, 1) := by decide +kernel
theorem dX1_hinders_12 : decode cX1_hinders 12 = .ok (.iaload, 1) := by decide +kernel
theorem dX1_hinders_13 : decode cX1_hinders 13 = .ok (.iconst 3, 1) := by decide +kernel
theorem dX1_hinders_14 : decode cX1_hinders 14 = .ok (.if_icmp .eq 19, 3) := by decide +kernel
theorem dX1_hinders_17 : decode cX1_hinders 17 = .ok (.iload_n 3, 1) := by decide +kernel
theorem dX1_hinders_18 : decode cX1_hinders 18 = .ok (.iload_n 2, 1) := by decide +kernel
theorem dX1_hinders_19 : decode cX1_hinders 19 = .ok (.if_icmp .eq 18, 3) := by decide +kernel
theorem dX1_hinders_22 : decode cX1_hinders 22 = .ok (.aload_n 0, 1) := by decide +kernel
theorem dX1_hinders_23 : decode cX1_hinders 23 = .ok (.getfield 52, 3) := by decide +kernel
theorem dX1_hinders_26 : decode cX1_hinders 26 = .ok (.iload_n 3, 1) := by decide +kernel
theorem dX1_hinders_27 : decode cX1_hinders 27 = .ok (.invokevirtual 122, 3) := by decide +kernel
theorem dX1_hinders_30 : decode cX1_hinders 30 = .ok (.ifCond .eq 7, 3) := by decide +kernel
theorem dX1_hinders_33 : decode cX1_hinders 33 = .ok (.iconst 1, 1) := by decide +kernel
theorem dX1_hinders_34 : decode cX1_hinders 34 = .ok (.goto 4, 3) := by decide +kernel
theorem dX1_hinders_37 : decode cX1_hinders 37 = .ok (.iconst 0, 1) := by decide +kernel
theorem dX1_hinders_38 : decode cX1_hinders 38 = .ok (.ireturn, 1) := by decide +kernel
theorem dX1_letterChangedAt_0 : decode cX1_letterChangedAt 0 = .ok (.aload_n 0, 1) := by decide +kernel
theorem dX1_letterChangedAt_1 : decode cX1_letterChangedAt 1 = .ok (.getfield 129, 3) := by decide +kernel
theorem dX1_letterChangedAt_4 : decode cX1_letterChangedAt 4 = .ok (.iload_n 1, 1) := by decide +kernel
theorem dX1_letterChangedAt_5 : decode cX1_letterChangedAt 5 = .ok (.iaload, 1) := by decide +kernel
theorem dX1_letterChangedAt_6 : decode cX1_letterChangedAt 6 = .ok (.iconst 1, 1) := by decide +kernel
theorem dX1_letterChangedAt_7 : decode cX1_letterChangedAt 7 = .ok (.if_icmp .eq 13, 3) := by decide +kernel
theorem dX1_letterChangedAt_10 : decode cX1_letterChangedAt 10 = .ok (.aload_n 0, 1) := by decide +kernel
theorem dX1_letterChangedAt_11 : decode cX1_letterChangedAt 11 = .ok (.getfield 129, 3) := by decide +kernel
theorem dX1_letterChangedAt_14 : decode cX1_letterChangedAt 14 = .ok (.iload_n 1, 1) := by decide +kernel
theorem dX1_letterChangedAt_15 : decode cX1_letterChangedAt 15 = .ok (.iaload, 1) := by decide +kernel
theorem dX1_letterChangedAt_16 : decode cX1_letterChangedAt 16 = .ok (.iconst 2, 1) := by decide +kernel
theorem dX1_letterChangedAt_17 : decode cX1_letterChangedAt 17 = .ok (.if_icmp .ne 12, 3) := by decide +kernel
theorem dX1_letterChangedAt_20 : decode cX1_letterChangedAt 20 = .ok (.aload_n 0, 1) := by decide +kernel
theorem dX1_letterChangedAt_21 : decode cX1_letterChangedAt 21 = .ok (.getfield 132, 3) := by decide +kernel
theorem dX1_letterChangedAt_24 : decode cX1_letterChangedAt 24 = .ok (.iload_n 1, 1) := by decide +kernel
theorem dX1_letterChangedAt_25 : decode cX1_letterChangedAt 25 = .ok (.iaload, 1) := by decide +kernel
theorem dX1_letterChangedAt_26 : decode cX1_letterChangedAt 26 = .ok (.goto 4, 3) := by decide +kernel
theorem dX1_letterChangedAt_29 : decode cX1_letterChangedAt 29 = .ok (.iconst (-1), 1) := by decide +kernel
theorem dX1_letterChangedAt_30 : decode cX1_letterChangedAt 30 = .ok (.ireturn, 1) := by decide +kernel
theorem dX1_lettersReadAt_0 : decode cX1_lettersReadAt 0 = .ok (.aload_n 0, 1) := by decide +kernel
theorem dX1_lettersReadAt_1 : decode cX1_lettersReadAt 1 = .ok (.getfield 129, 3) := by decide +kernel
theorem dX1_lettersReadAt_4 : decode cX1_lettersReadAt 4 = .ok (.iload_n 1, 1) := by decide +kernel
theorem dX1_lettersReadAt_5 : decode cX1_lettersReadAt 5 = .ok (.iaload, 1) := by decide +kernel
theorem dX1_lettersReadAt_6 : decode cX1_lettersReadAt 6 = .ok (.tableswitch 68 1 5 #[34, 44, 34, 68, 58], 34) := by decide +kernel
theorem dX1_lettersReadAt_40 : decode cX1_lettersReadAt 40 = .ok (.aload_n 0, 1) := by decide +kernel
theorem dX1_lettersReadAt_41 : decode cX1_lettersReadAt 41 = .ok (.getfield 135, 3) := by decide +kernel
theorem dX1_lettersReadAt_44 : decode cX1_lettersReadAt 44 = .ok (.iload_n 1, 1) := by decide +kernel
theorem dX1_lettersReadAt_45 : decode cX1_lettersReadAt 45 = .ok (.iaload, 1) := by decide +kernel
theorem dX1_lettersReadAt_46 : decode cX1_lettersReadAt 46 = .ok (.invokestatic 115, 3) := by decide +kernel
theorem dX1_lettersReadAt_49 : decode cX1_lettersReadAt 49 = .ok (.ireturn, 1) := by decide +kernel
theorem dX1_lettersReadAt_50 : decode cX1_lettersReadAt 50 = .ok (.aload_n 0, 1) := by decide +kernel
theorem dX1_lettersReadAt_51 : decode cX1_lettersReadAt 51 = .ok (.getfield 52, 3) := by decide +kernel
theorem dX1_lettersReadAt_54 : decode cX1_lettersReadAt 54 = .ok (.aload_n 0, 1) := by decide +kernel
theorem dX1_lettersReadAt_55 : decode cX1_lettersReadAt 55 = .ok (.getfield 105, 3) := by decide +kernel
theorem dX1_lettersReadAt_58 : decode cX1_lettersReadAt 58 = .ok (.iload_n 1, 1) := by decide +kernel
theorem dX1_lettersReadAt_59 : decode cX1_lettersReadAt 59 = .ok (.iaload, 1) := by decide +kernel
theorem dX1_lettersReadAt_60 : decode cX1_lettersReadAt 60 = .ok (.invokevirtual 119, 3) := by decide +kernel
theorem dX1_lettersReadAt_63 : decode cX1_lettersReadAt 63 = .ok (.ireturn, 1) := by decide +kernel
theorem dX1_lettersReadAt_64 : decode cX1_lettersReadAt 64 = .ok (.aload_n 0, 1) := by decide +kernel
theorem dX1_lettersReadAt_65 : decode cX1_lettersReadAt 65 = .ok (.getfield 132, 3) := by decide +kernel
theorem dX1_lettersReadAt_68 : decode cX1_lettersReadAt 68 = .ok (.iload_n 1, 1) := by decide +kernel
theorem dX1_lettersReadAt_69 : decode cX1_lettersReadAt 69 = .ok (.iaload, 1) := by decide +kernel
theorem dX1_lettersReadAt_70 : decode cX1_lettersReadAt 70 = .ok (.invokestatic 115, 3) := by decide +kernel
theorem dX1_lettersReadAt_73 : decode cX1_lettersReadAt 73 = .ok (.ireturn, 1) := by decide +kernel
theorem dX1_lettersReadAt_74 : decode cX1_lettersReadAt 74 = .ok (.iconst 0, 1) := by decide +kernel
theorem dX1_lettersReadAt_75 : decode cX1_lettersReadAt 75 = .ok (.ireturn, 1) := by decide +kernel
theorem dX1_findSound_0 : decode cX1_findSound 0 = .ok (.iconst 0, 1) := by decide +kernel
theorem dX1_findSound_1 : decode cX1_findSound 1 = .ok (.istore_n 2, 1) := by decide +kernel
theorem dX1_findSound_2 : decode cX1_findSound 2 = .ok (.iload_n 2, 1) := by decide +kernel
theorem dX1_findSound_3 : decode cX1_findSound 3 = .ok (.aload_n 1, 1) := by decide +kernel
theorem dX1_findSound_4 : decode cX1_findSound 4 = .ok (.getfield 67, 3) := by decide +kernel
theorem dX1_findSound_7 : decode cX1_findSound 7 = .ok (.if_icmp .ge 36, 3) := by decide +kernel
theorem dX1_findSound_10 : decode cX1_findSound 10 = .ok (.aload_n 0, 1) := by decide +kernel
theorem dX1_findSound_11 : decode cX1_findSound 11 = .ok (.getfield 12, 3) := by decide +kernel
theorem dX1_findSound_14 : decode cX1_findSound 14 = .ok (.iload_n 2, 1) := by decide +kernel
theorem dX1_findSound_15 : decode cX1_findSound 15 = .ok (.aload_n 1, 1) := by decide +kernel
theorem dX1_findSound_16 : decode cX1_findSound 16 = .ok (.iload_n 2, 1) := by decide +kernel
theorem dX1_findSound_17 : decode cX1_findSound 17 = .ok (.invokevirtual 138, 3) := by decide +kernel
theorem dX1_findSound_20 : decode cX1_findSound 20 = .ok (.ifCond .ne 7, 3) := by decide +kernel
theorem dX1_findSound_23 : decode cX1_findSound 23 = .ok (.iconst 1, 1) := by decide +kernel
theorem dX1_findSound_24 : decode cX1_findSound 24 = .ok (.goto 4, 3) := by decide +kernel
theorem dX1_findSound_27 : decode cX1_findSound 27 = .ok (.iconst 0, 1) := by decide +kernel
theorem dX1_findSound_28 : decode cX1_findSound 28 = .ok (.invokestatic 141, 3) := by decide +kernel
theorem dX1_findSound_31 : decode cX1_findSound 31 = .ok (.iconst 1, 1) := by decide +kernel
theorem dX1_findSound_32 : decode cX1_findSound 32 = .ok (.iconst 0, 1) := by decide +kernel
theorem dX1_findSound_33 : decode cX1_findSound 33 = .ok (.iconst 1, 1) := by decide +kernel
theorem dX1_findSound_34 : decode cX1_findSound 34 = .ok (.invokevirtual 145, 3) := by decide +kernel
theorem dX1_findSound_37 : decode cX1_findSound 37 = .ok (.iinc 2 1, 3) := by decide +kernel
theorem dX1_findSound_40 : decode cX1_findSound 40 = .ok (.goto (-38), 3) := by decide +kernel
theorem dX1_findSound_43 : decode cX1_findSound 43 = .ok (.aload_n 0, 1) := by decide +kernel
theorem dX1_findSound_44 : decode cX1_findSound 44 = .ok (.getfield 12, 3) := by decide +kernel
theorem dX1_findSound_47 : decode cX1_findSound 47 = .ok (.aload_n 1, 1) := by decide +kernel
theorem dX1_findSound_48 : decode cX1_findSound 48 = .ok (.aload_n 0, 1) := by decide +kernel
theorem dX1_findSound_49 : decode cX1_findSound 49 = .ok (.getfield 49, 3) := by decide +kernel
theorem dX1_findSound_52 : decode cX1_findSound 52 = .ok (.iconst 1, 1) := by decide +kernel
theorem dX1_findSound_53 : decode cX1_findSound 53 = .ok (.iconst 1, 1) := by decide +kernel
theorem dX1_findSound_54 : decode cX1_findSound 54 = .ok (.iconst 0, 1) := by decide +kernel
theorem dX1_findSound_55 : decode cX1_findSound 55 = .ok (.invokevirtual 149, 3) := by decide +kernel
theorem dX1_findSound_58 : decode cX1_findSound 58 = .ok (.aload_n 0, 1) := by decide +kernel
theorem dX1_findSound_59 : decode cX1_findSound 59 = .ok (.aload_n 1, 1) := by decide +kernel
theorem dX1_findSound_60 : decode cX1_findSound 60 = .ok (.aload_n 0, 1) := by decide +kernel
theorem dX1_findSound_61 : decode cX1_findSound 61 = .ok (.getfield 49, 3) := by decide +kernel
theorem dX1_findSound_64 : decode cX1_findSound 64 = .ok (.iconst 1, 1) := by decide +kernel
theorem dX1_findSound_65 : decode cX1_findSound 65 = .ok (.invokevirtual 153, 3) := by decide +kernel
theorem dX1_findSound_68 : decode cX1_findSound 68 = .ok (.aload_n 1, 1) := by decide +kernel
theorem dX1_findSound_69 : decode cX1_findSound 69 = .ok (.getfield 67, 3) := by decide +kernel
theorem dX1_findSound_72 : decode cX1_findSound 72 = .ok (.if_icmp .ne 7, 3) := by decide +kernel
theorem dX1_findSound_75 : decode cX1_findSound 75 = .ok (.iconst 1, 1) := by decide +kernel
theorem dX1_findSound_76 : decode cX1_findSound 76 = .ok (.goto 4, 3) := by decide +kernel
theorem dX1_findSound_79 : decode cX1_findSound 79 = .ok (.iconst 0, 1) := by decide +kernel
theorem dX1_findSound_80 : decode cX1_findSound 80 = .ok (.putfield 157, 3) := by decide +kernel
theorem dX1_findSound_83 : decode cX1_findSound 83 = .ok (.return_, 1) := by decide +kernel
theorem dX1_findLive_0 : decode cX1_findLive 0 = .ok (.iconst 0, 1) := by decide +kernel
theorem dX1_findLive_1 : decode cX1_findLive 1 = .ok (.istore_n 2, 1) := by decide +kernel
theorem dX1_findLive_2 : decode cX1_findLive 2 = .ok (.iload_n 2, 1) := by decide +kernel
theorem dX1_findLive_3 : decode cX1_findLive 3 = .ok (.aload_n 1, 1) := by decide +kernel
theorem dX1_findLive_4 : decode cX1_findLive 4 = .ok (.getfield 67, 3) := by decide +kernel
theorem dX1_findLive_7 : decode cX1_findLive 7 = .ok (.if_icmp .ge 34, 3) := by decide +kernel
theorem dX1_findLive_10 : decode cX1_findLive 10 = .ok (.aload_n 0, 1) := by decide +kernel
theorem dX1_findLive_11 : decode cX1_findLive 11 = .ok (.getfield 12, 3) := by decide +kernel
theorem dX1_findLive_14 : decode cX1_findLive 14 = .ok (.iload_n 2, 1) := by decide +kernel
theorem dX1_findLive_15 : decode cX1_findLive 15 = .ok (.aload_n 1, 1) := by decide +kernel
theorem dX1_findLive_16 : decode cX1_findLive 16 = .ok (.iload_n 2, 1) := by decide +kernel
theorem dX1_findLive_17 : decode cX1_findLive 17 = .ok (.invokestatic 161, 3) := by decide +kernel
theorem dX1_findLive_20 : decode cX1_findLive 20 = .ok (.aload_n 1, 1) := by decide +kernel
theorem dX1_findLive_21 : decode cX1_findLive 21 = .ok (.iload_n 2, 1) := by decide +kernel
theorem dX1_findLive_22 : decode cX1_findLive 22 = .ok (.invokestatic 112, 3) := by decide +kernel
theorem dX1_findLive_25 : decode cX1_findLive 25 = .ok (.invokestatic 115, 3) := by decide +kernel
theorem dX1_findLive_28 : decode cX1_findLive 28 = .ok (.iconst (-1), 1) := by decide +kernel
theorem dX1_findLive_29 : decode cX1_findLive 29 = .ok (.ixor, 1) := by decide +kernel
theorem dX1_findLive_30 : decode cX1_findLive 30 = .ok (.iconst 0, 1) := by decide +kernel
theorem dX1_findLive_31 : decode cX1_findLive 31 = .ok (.iconst (-1), 1) := by decide +kernel
theorem dX1_findLive_32 : decode cX1_findLive 32 = .ok (.invokevirtual 145, 3) := by decide +kernel
theorem dX1_findLive_35 : decode cX1_findLive 35 = .ok (.iinc 2 1, 3) := by decide +kernel
theorem dX1_findLive_38 : decode cX1_findLive 38 = .ok (.goto (-36), 3) := by decide +kernel
theorem dX1_findLive_41 : decode cX1_findLive 41 = .ok (.aload_n 0, 1) := by decide +kernel
theorem dX1_findLive_42 : decode cX1_findLive 42 = .ok (.getfield 12, 3) := by decide +kernel
theorem dX1_findLive_45 : decode cX1_findLive 45 = .ok (.aload_n 1, 1) := by decide +kernel
theorem dX1_findLive_46 : decode cX1_findLive 46 = .ok (.aload_n 0, 1) := by decide +kernel
theorem dX1_findLive_47 : decode cX1_findLive 47 = .ok (.getfield 46, 3) := by decide +kernel
theorem dX1_findLive_50 : decode cX1_findLive 50 = .ok (.iconst (-1), 1) := by decide +kernel
theorem dX1_findLive_51 : decode cX1_findLive 51 = .ok (.iconst 1, 1) := by decide +kernel
theorem dX1_findLive_52 : decode cX1_findLive 52 = .ok (.iconst 0, 1) := by decide +kernel
theorem dX1_findLive_53 : decode cX1_findLive 53 = .ok (.invokevirtual 149, 3) := by decide +kernel
theorem dX1_findLive_56 : decode cX1_findLive 56 = .ok (.return_, 1) := by decide +kernel
theorem dX1_isDead_0 : decode cX1_isDead 0 = .ok (.aload_n 1, 1) := by decide +kernel
theorem dX1_isDead_1 : decode cX1_isDead 1 = .ok (.iload_n 2, 1) := by decide +kernel
theorem dX1_isDead_2 : decode cX1_isDead 2 = .ok (.invokestatic 112, 3) := by decide +kernel
theorem dX1_isDead_5 : decode cX1_isDead 5 = .ok (.istore_n 3, 1) := by decide +kernel
theorem dX1_isDead_6 : decode cX1_isDead 6 = .ok (.iload_n 3, 1) := by decide +kernel
theorem dX1_isDead_7 : decode cX1_isDead 7 = .ok (.iconst (-1), 1) := by decide +kernel
theorem dX1_isDead_8 : decode cX1_isDead 8 = .ok (.if_icmp .eq 19, 3) := by decide +kernel
theorem dX1_isDead_11 : decode cX1_isDead 11 = .ok (.aload_n 1, 1) := by decide +kernel
theorem dX1_isDead_12 : decode cX1_isDead 12 = .ok (.getfield 52, 3) := by decide +kernel
theorem dX1_isDead_15 : decode cX1_isDead 15 = .ok (.aload_n 1, 1) := by decide +kernel
theorem dX1_isDead_16 : decode cX1_isDead 16 = .ok (.getfield 105, 3) := by decide +kernel
theorem dX1_isDead_19 : decode cX1_isDead 19 = .ok (.iload_n 2, 1) := by decide +kernel
theorem dX1_isDead_20 : decode cX1_isDead 20 = .ok (.iaload, 1) := by decide +kernel
theorem dX1_isDead_21 : decode cX1_isDead 21 = .ok (.invokevirtual 122, 3) := by decide +kernel
theorem dX1_isDead_24 : decode cX1_isDead 24 = .ok (.ifCond .eq 5, 3) := by decide +kernel
theorem dX1_isDead_27 : decode cX1_isDead 27 = .ok (.iconst 0, 1) := by decide +kernel
theorem dX1_isDead_28 : decode cX1_isDead 28 = .ok (.ireturn, 1) := by decide +kernel
theorem dX1_isDead_29 : decode cX1_isDead 29 = .ok (.iconst 0, 1) := by decide +kernel
theorem dX1_isDead_30 : decode cX1_isDead 30 = .ok (.istore 4, 2) := by decide +kernel
theorem dX1_isDead_32 : decode cX1_isDead 32 = .ok (.iconst 0, 1) := by decide +kernel
theorem dX1_isDead_33 : decode cX1_isDead 33 = .ok (.istore 5, 2) := by decide +kernel
theorem dX1_isDead_35 : decode cX1_isDead 35 = .ok (.iload 5, 2) := by decide +kernel
theorem dX1_isDead_37 : decode cX1_isDead 37 = .ok (.aload_n 1, 1) := by decide +kernel
theorem dX1_isDead_38 : decode cX1_isDead 38 = .ok (.iload_n 2, 1) := by decide +kernel
theorem dX1_isDead_39 : decode cX1_isDead 39 = .ok (.invokevirtual 138, 3) := by decide +kernel
theorem dX1_isDead_42 : decode cX1_isDead 42 = .ok (.if_icmp .ge 43, 3) := by decide +kernel
theorem dX1_isDead_45 : decode cX1_isDead 45 = .ok (.aload_n 1, 1) := by decide +kernel
theorem dX1_isDead_46 : decode cX1_isDead 46 = .ok (.iload_n 2, 1) := by decide +kernel
theorem dX1_isDead_47 : decode cX1_isDead 47 = .ok (.iload 5, 2) := by decide +kernel
theorem dX1_isDead_49 : decode cX1_isDead 49 = .ok (.invokevirtual 164, 3) := by decide +kernel
theorem dX1_isDead_52 : decode cX1_isDead 52 = .ok (.istore 6, 2) := by decide +kernel
theorem dX1_isDead_54 : decode cX1_isDead 54 = .ok (.iload 4, 2) := by decide +kernel
theorem dX1_isDead_56 : decode cX1_isDead 56 = .ok (.aload_n 1, 1) := by decide +kernel
theorem dX1_isDead_57 : decode cX1_isDead 57 = .ok (.iload 6, 2) := by decide +kernel
theorem dX1_isDead_59 : decode cX1_isDead 59 = .ok (.invokevirtual 168, 3) := by decide +kernel
theorem dX1_isDead_62 : decode cX1_isDead 62 = .ok (.ifCond .eq 13, 3) := by decide +kernel
theorem dX1_isDead_65 : decode cX1_isDead 65 = .ok (.aload_n 0, 1) := by decide +kernel
theorem dX1_isDead_66 : decode cX1_isDead 66 = .ok (.getfield 46, 3) := by decide +kernel
theorem dX1_isDead_69 : decode cX1_isDead 69 = .ok (.iload 6, 2) := by decide +kernel
theorem dX1_isDead_71 : decode cX1_isDead 71 = .ok (.iaload, 1) := by decide +kernel
theorem dX1_isDead_72 : decode cX1_isDead 72 = .ok (.goto 4, 3) := by decide +kernel
theorem dX1_isDead_75 : decode cX1_isDead 75 = .ok (.iconst 0, 1) := by decide +kernel
theorem dX1_isDead_76 : decode cX1_isDead 76 = .ok (.ior, 1) := by decide +kernel
theorem dX1_isDead_77 : decode cX1_isDead 77 = .ok (.istore 4, 2) := by decide +kernel
theorem dX1_isDead_79 : decode cX1_isDead 79 = .ok (.iinc 5 1, 3) := by decide +kernel
theorem dX1_isDead_82 : decode cX1_isDead 82 = .ok (.goto (-47), 3) := by decide +kernel
theorem dX1_isDead_85 : decode cX1_isDead 85 = .ok (.iload 4, 2) := by decide +kernel
theorem dX1_isDead_87 : decode cX1_isDead 87 = .ok (.iload_n 3, 1) := by decide +kernel
theorem dX1_isDead_88 : decode cX1_isDead 88 = .ok (.invokestatic 115, 3) := by decide +kernel
theorem dX1_isDead_91 : decode cX1_isDead 91 = .ok (.iand, 1) := by decide +kernel
theorem dX1_isDead_92 : decode cX1_isDead 92 = .ok (.ifCond .ne 7, 3) := by decide +kernel
theorem dX1_isDead_95 : decode cX1_isDead 95 = .ok (.iconst 1, 1) := by decide +kernel
theorem dX1_isDead_96 : decode cX1_isDead 96 = .ok (.goto 4, 3) := by decide +kernel
theorem dX1_isDead_99 : decode cX1_isDead 99 = .ok (.iconst 0, 1) := by decide +kernel
theorem dX1_isDead_100 : decode cX1_isDead 100 = .ok (.ireturn, 1) := by decide +kernel
theorem dX1_findNeeded_0 : decode cX1_findNeeded 0 = .ok (.iconst 0, 1) := by decide +kernel
theorem dX1_findNeeded_1 : decode cX1_findNeeded 1 = .ok (.istore_n 2, 1) := by decide +kernel
theorem dX1_findNeeded_2 : decode cX1_findNeeded 2 = .ok (.iload_n 2, 1) := by decide +kernel
theorem dX1_findNeeded_3 : decode cX1_findNeeded 3 = .ok (.aload_n 1, 1) := by decide +kernel
theorem dX1_findNeeded_4 : decode cX1_findNeeded 4 = .ok (.getfield 67, 3) := by decide +kernel
theorem dX1_findNeeded_7 : decode cX1_findNeeded 7 = .ok (.if_icmp .ge 46, 3) := by decide +kernel
theorem dX1_findNeeded_10 : decode cX1_findNeeded 10 = .ok (.aload_n 0, 1) := by decide +kernel
theorem dX1_findNeeded_11 : decode cX1_findNeeded 11 = .ok (.getfield 12, 3) := by decide +kernel
theorem dX1_findNeeded_14 : decode cX1_findNeeded 14 = .ok (.iload_n 2, 1) := by decide +kernel
theorem dX1_findNeeded_15 : decode cX1_findNeeded 15 = .ok (.aload_n 0, 1) := by decide +kernel
theorem dX1_findNeeded_16 : decode cX1_findNeeded 16 = .ok (.getfield 18, 3) := by decide +kernel
theorem dX1_findNeeded_19 : decode cX1_findNeeded 19 = .ok (.iload_n 2, 1) := by decide +kernel
theorem dX1_findNeeded_20 : decode cX1_findNeeded 20 = .ok (.iaload, 1) := by decide +kernel
theorem dX1_findNeeded_21 : decode cX1_findNeeded 21 = .ok (.aload_n 1, 1) := by decide +kernel
theorem dX1_findNeeded_22 : decode cX1_findNeeded 22 = .ok (.iload_n 2, 1) := by decide +kernel
theorem dX1_findNeeded_23 : decode cX1_findNeeded 23 = .ok (.invokevirtual 138, 3) := by decide +kernel
theorem dX1_findNeeded_26 : decode cX1_findNeeded 26 = .ok (.ifCond .le 12, 3) := by decide +kernel
theorem dX1_findNeeded_29 : decode cX1_findNeeded 29 = .ok (.aload_n 0, 1) := by decide +kernel
theorem dX1_findNeeded_30 : decode cX1_findNeeded 30 = .ok (.getfield 22, 3) := by decide +kernel
theorem dX1_findNeeded_33 : decode cX1_findNeeded 33 = .ok (.iload_n 2, 1) := by decide +kernel
theorem dX1_findNeeded_34 : decode cX1_findNeeded 34 = .ok (.iaload, 1) := by decide +kernel
theorem dX1_findNeeded_35 : decode cX1_findNeeded 35 = .ok (.goto 4, 3) := by decide +kernel
theorem dX1_findNeeded_38 : decode cX1_findNeeded 38 = .ok (.iconst 0, 1) := by decide +kernel
theorem dX1_findNeeded_39 : decode cX1_findNeeded 39 = .ok (.iconst 0, 1) := by decide +kernel
theorem dX1_findNeeded_40 : decode cX1_findNeeded 40 = .ok (.aload_n 0, 1) := by decide +kernel
theorem dX1_findNeeded_41 : decode cX1_findNeeded 41 = .ok (.getfield 64, 3) := by decide +kernel
theorem dX1_findNeeded_44 : decode cX1_findNeeded 44 = .ok (.invokevirtual 145, 3) := by decide +kernel
theorem dX1_findNeeded_47 : decode cX1_findNeeded 47 = .ok (.iinc 2 1, 3) := by decide +kernel
theorem dX1_findNeeded_50 : decode cX1_findNeeded 50 = .ok (.goto (-48), 3) := by decide +kernel
theorem dX1_findNeeded_53 : decode cX1_findNeeded 53 = .ok (.aload_n 0, 1) := by decide +kernel
theorem dX1_findNeeded_54 : decode cX1_findNeeded 54 = .ok (.getfield 12, 3) := by decide +kernel
theorem dX1_findNeeded_57 : decode cX1_findNeeded 57 = .ok (.aload_n 1, 1) := by decide +kernel
theorem dX1_findNeeded_58 : decode cX1_findNeeded 58 = .ok (.aload_n 0, 1) := by decide +kernel
theorem dX1_findNeeded_59 : decode cX1_findNeeded 59 = .ok (.getfield 25, 3) := by decide +kernel
theorem dX1_findNeeded_62 : decode cX1_findNeeded 62 = .ok (.aload_n 0, 1) := by decide +kernel
theorem dX1_findNeeded_63 : decode cX1_findNeeded 63 = .ok (.getfield 64, 3) := by decide +kernel
theorem dX1_findNeeded_66 : decode cX1_findNeeded 66 = .ok (.iconst 1, 1) := by decide +kernel
theorem dX1_findNeeded_67 : decode cX1_findNeeded 67 = .ok (.iconst 1, 1) := by decide +kernel
theorem dX1_findNeeded_68 : decode cX1_findNeeded 68 = .ok (.invokevirtual 149, 3) := by decide +kernel
theorem dX1_findNeeded_71 : decode cX1_findNeeded 71 = .ok (.return_, 1) := by decide +kernel
theorem dX1_findAtHand_0 : decode cX1_findAtHand 0 = .ok (.iconst 0, 1) := by decide +kernel
theorem dX1_findAtHand_1 : decode cX1_findAtHand 1 = .ok (.istore_n 2, 1) := by decide +kernel
theorem dX1_findAtHand_2 : decode cX1_findAtHand 2 = .ok (.iload_n 2, 1) := by decide +kernel
theorem dX1_findAtHand_3 : decode cX1_findAtHand 3 = .ok (.aload_n 1, 1) := by decide +kernel
theorem dX1_findAtHand_4 : decode cX1_findAtHand 4 = .ok (.getfield 67, 3) := by decide +kernel
theorem dX1_findAtHand_7 : decode cX1_findAtHand 7 = .ok (.if_icmp .ge 49, 3) := by decide +kernel
theorem dX1_findAtHand_10 : decode cX1_findAtHand 10 = .ok (.aload_n 0, 1) := by decide +kernel
theorem dX1_findAtHand_11 : decode cX1_findAtHand 11 = .ok (.getfield 12, 3) := by decide +kernel
theorem dX1_findAtHand_14 : decode cX1_findAtHand 14 = .ok (.iload_n 2, 1) := by decide +kernel
theorem dX1_findAtHand_15 : decode cX1_findAtHand 15 = .ok (.iconst 0, 1) := by decide +kernel
theorem dX1_findAtHand_16 : decode cX1_findAtHand 16 = .ok (.iload_n 2, 1) := by decide +kernel
theorem dX1_findAtHand_17 : decode cX1_findAtHand 17 = .ok (.ifCond .ne 7, 3) := by decide +kernel
theorem dX1_findAtHand_20 : decode cX1_findAtHand 20 = .ok (.iconst 0, 1) := by decide +kernel
theorem dX1_findAtHand_21 : decode cX1_findAtHand 21 = .ok (.goto 7, 3) := by decide +kernel
theorem dX1_findAtHand_24 : decode cX1_findAtHand 24 = .ok (.aload_n 0, 1) := by decide +kernel
theorem dX1_findAtHand_25 : decode cX1_findAtHand 25 = .ok (.getfield 64, 3) := by decide +kernel
theorem dX1_findAtHand_28 : decode cX1_findAtHand 28 = .ok (.aload_n 0, 1) := by decide +kernel
theorem dX1_findAtHand_29 : decode cX1_findAtHand 29 = .ok (.getfield 22, 3) := by decide +kernel
theorem dX1_findAtHand_32 : decode cX1_findAtHand 32 = .ok (.iload_n 2, 1) := by decide +kernel
theorem dX1_findAtHand_33 : decode cX1_findAtHand 33 = .ok (.iaload, 1) := by decide +kernel
theorem dX1_findAtHand_34 : decode cX1_findAtHand 34 = .ok (.aload_n 0, 1) := by decide +kernel
theorem dX1_findAtHand_35 : decode cX1_findAtHand 35 = .ok (.getfield 18, 3) := by decide +kernel
theorem dX1_findAtHand_38 : decode cX1_findAtHand 38 = .ok (.iload_n 2, 1) := by decide +kernel
theorem dX1_findAtHand_39 : decode cX1_findAtHand 39 = .ok (.iaload, 1) := by decide +kernel
theorem dX1_findAtHand_40 : decode cX1_findAtHand 40 = .ok (.iand, 1) := by decide +kernel
theorem dX1_findAtHand_41 : decode cX1_findAtHand 41 = .ok (.aload_n 0, 1) := by decide +kernel
theorem dX1_findAtHand_42 : decode cX1_findAtHand 42 = .ok (.getfield 22, 3) := by decide +kernel
theorem dX1_findAtHand_45 : decode cX1_findAtHand 45 = .ok (.iload_n 2, 1) := by decide +kernel
theorem dX1_findAtHand_46 : decode cX1_findAtHand 46 = .ok (.iaload, 1) := by decide +kernel
theorem dX1_findAtHand_47 : decode cX1_findAtHand 47 = .ok (.invokevirtual 145, 3) := by decide +kernel
theorem dX1_findAtHand_50 : decode cX1_findAtHand 50 = .ok (.iinc 2 1, 3) := by decide +kernel
theorem dX1_findAtHand_53 : decode cX1_findAtHand 53 = .ok (.goto (-51), 3) := by decide +kernel
theorem dX1_findAtHand_56 : decode cX1_findAtHand 56 = .ok (.aload_n 0, 1) := by decide +kernel
theorem dX1_findAtHand_57 : decode cX1_findAtHand 57 = .ok (.getfield 12, 3) := by decide +kernel
theorem dX1_findAtHand_60 : decode cX1_findAtHand 60 = .ok (.aload_n 1, 1) := by decide +kernel
theorem dX1_findAtHand_61 : decode cX1_findAtHand 61 = .ok (.aload_n 0, 1) := by decide +kernel
theorem dX1_findAtHand_62 : decode cX1_findAtHand 62 = .ok (.getfield 28, 3) := by decide +kernel
theorem dX1_findAtHand_65 : decode cX1_findAtHand 65 = .ok (.aload_n 0, 1) := by decide +kernel
theorem dX1_findAtHand_66 : decode cX1_findAtHand 66 = .ok (.getfield 64, 3) := by decide +kernel
theorem dX1_findAtHand_69 : decode cX1_findAtHand 69 = .ok (.iconst 0, 1) := by decide +kernel
theorem dX1_findAtHand_70 : decode cX1_findAtHand 70 = .ok (.iconst 1, 1) := by decide +kernel
theorem dX1_findAtHand_71 : decode cX1_findAtHand 71 = .ok (.invokevirtual 149, 3) := by decide +kernel
theorem dX1_findAtHand_74 : decode cX1_findAtHand 74 = .ok (.return_, 1) := by decide +kernel
theorem dX1_findMaybe_0 : decode cX1_findMaybe 0 = .ok (.iconst 0, 1) := by decide +kernel
theorem dX1_findMaybe_1 : decode cX1_findMaybe 1 = .ok (.istore_n 2, 1) := by decide +kernel
theorem dX1_findMaybe_2 : decode cX1_findMaybe 2 = .ok (.iload_n 2, 1) := by decide +kernel
theorem dX1_findMaybe_3 : decode cX1_findMaybe 3 = .ok (.aload_n 1, 1) := by decide +kernel
theorem dX1_findMaybe_4 : decode cX1_findMaybe 4 = .ok (.getfield 67, 3) := by decide +kernel
theorem dX1_findMaybe_7 : decode cX1_findMaybe 7 = .ok (.if_icmp .ge 41, 3) := by decide +kernel
theorem dX1_findMaybe_10 : decode cX1_findMaybe 10 = .ok (.aload_n 0, 1) := by decide +kernel
theorem dX1_findMaybe_11 : decode cX1_findMaybe 11 = .ok (.getfield 12, 3) := by decide +kernel
theorem dX1_findMaybe_14 : decode cX1_findMaybe 14 = .ok (.iload_n 2, 1) := by decide +kernel
theorem dX1_findMaybe_15 : decode cX1_findMaybe 15 = .ok (.iconst 0, 1) := by decide +kernel
theorem dX1_findMaybe_16 : decode cX1_findMaybe 16 = .ok (.aload_n 0, 1) := by decide +kernel
theorem dX1_findMaybe_17 : decode cX1_findMaybe 17 = .ok (.getfield 64, 3) := by decide +kernel
theorem dX1_findMaybe_20 : decode cX1_findMaybe 20 = .ok (.aload_n 0, 1) := by decide +kernel
theorem dX1_findMaybe_21 : decode cX1_findMaybe 21 = .ok (.getfield 22, 3) := by decide +kernel
theorem dX1_findMaybe_24 : decode cX1_findMaybe 24 = .ok (.iload_n 2, 1) := by decide +kernel
theorem dX1_findMaybe_25 : decode cX1_findMaybe 25 = .ok (.iaload, 1) := by decide +kernel
theorem dX1_findMaybe_26 : decode cX1_findMaybe 26 = .ok (.aload_n 0, 1) := by decide +kernel
theorem dX1_findMaybe_27 : decode cX1_findMaybe 27 = .ok (.getfield 18, 3) := by decide +kernel
theorem dX1_findMaybe_30 : decode cX1_findMaybe 30 = .ok (.iload_n 2, 1) := by decide +kernel
theorem dX1_findMaybe_31 : decode cX1_findMaybe 31 = .ok (.iaload, 1) := by decide +kernel
theorem dX1_findMaybe_32 : decode cX1_findMaybe 32 = .ok (.iand, 1) := by decide +kernel
theorem dX1_findMaybe_33 : decode cX1_findMaybe 33 = .ok (.aload_n 0, 1) := by decide +kernel
theorem dX1_findMaybe_34 : decode cX1_findMaybe 34 = .ok (.getfield 22, 3) := by decide +kernel
theorem dX1_findMaybe_37 : decode cX1_findMaybe 37 = .ok (.iload_n 2, 1) := by decide +kernel
theorem dX1_findMaybe_38 : decode cX1_findMaybe 38 = .ok (.iaload, 1) := by decide +kernel
theorem dX1_findMaybe_39 : decode cX1_findMaybe 39 = .ok (.invokevirtual 145, 3) := by decide +kernel
theorem dX1_findMaybe_42 : decode cX1_findMaybe 42 = .ok (.iinc 2 1, 3) := by decide +kernel
theorem dX1_findMaybe_45 : decode cX1_findMaybe 45 = .ok (.goto (-43), 3) := by decide +kernel
theorem dX1_findMaybe_48 : decode cX1_findMaybe 48 = .ok (.aload_n 0, 1) := by decide +kernel
theorem dX1_findMaybe_49 : decode cX1_findMaybe 49 = .ok (.getfield 12, 3) := by decide +kernel
theorem dX1_findMaybe_52 : decode cX1_findMaybe 52 = .ok (.aload_n 1, 1) := by decide +kernel
theorem dX1_findMaybe_53 : decode cX1_findMaybe 53 = .ok (.aload_n 0, 1) := by decide +kernel
theorem dX1_findMaybe_54 : decode cX1_findMaybe 54 = .ok (.getfield 43, 3) := by decide +kernel
theorem dX1_findMaybe_57 : decode cX1_findMaybe 57 = .ok (.aload_n 0, 1) := by decide +kernel
theorem dX1_findMaybe_58 : decode cX1_findMaybe 58 = .ok (.getfield 64, 3) := by decide +kernel
theorem dX1_findMaybe_61 : decode cX1_findMaybe 61 = .ok (.iconst 0, 1) := by decide +kernel
theorem dX1_findMaybe_62 : decode cX1_findMaybe 62 = .ok (.iconst 0, 1) := by decide +kernel
theorem dX1_findMaybe_63 : decode cX1_findMaybe 63 = .ok (.invokevirtual 149, 3) := by decide +kernel
theorem dX1_findMaybe_66 : decode cX1_findMaybe 66 = .ok (.return_, 1) := by decide +kernel
theorem dX1_findEarly_0 : decode cX1_findEarly 0 = .ok (.iconst 0, 1) := by decide +kernel
theorem dX1_findEarly_1 : decode cX1_findEarly 1 = .ok (.istore_n 2, 1) := by decide +kernel
theorem dX1_findEarly_2 : decode cX1_findEarly 2 = .ok (.iload_n 2, 1) := by decide +kernel
theorem dX1_findEarly_3 : decode cX1_findEarly 3 = .ok (.aload_n 1, 1) := by decide +kernel
theorem dX1_findEarly_4 : decode cX1_findEarly 4 = .ok (.getfield 67, 3) := by decide +kernel
theorem dX1_findEarly_7 : decode cX1_findEarly 7 = .ok (.if_icmp .ge 107, 3) := by decide +kernel
theorem dX1_findEarly_10 : decode cX1_findEarly 10 = .ok (.iload_n 2, 1) := by decide +kernel
theorem dX1_findEarly_11 : decode cX1_findEarly 11 = .ok (.ifCond .ne 10, 3) := by decide +kernel
theorem dX1_findEarly_14 : decode cX1_findEarly 14 = .ok (.aload_n 0, 1) := by decide +kernel
theorem dX1_findEarly_15 : decode cX1_findEarly 15 = .ok (.getfield 64, 3) := by decide +kernel
theorem dX1_findEarly_18 : decode cX1_findEarly 18 = .ok (.goto 4, 3) := by decide +kernel
theorem dX1_findEarly_21 : decode cX1_findEarly 21 = .ok (.iconst 0, 1) := by decide +kernel
theorem dX1_findEarly_22 : decode cX1_findEarly 22 = .ok (.istore_n 3, 1) := by decide +kernel
theorem dX1_findEarly_23 : decode cX1_findEarly 23 = .ok (.iconst 0, 1) := by decide +kernel
theorem dX1_findEarly_24 : decode cX1_findEarly 24 = .ok (.istore 4, 2) := by decide +kernel
theorem dX1_findEarly_26 : decode cX1_findEarly 26 = .ok (.iload 4, 2) := by decide +kernel
theorem dX1_findEarly_28 : decode cX1_findEarly 28 = .ok (.aload_n 1, 1) := by decide +kernel
theorem dX1_findEarly_29 : decode cX1_findEarly 29 = .ok (.iload_n 2, 1) := by decide +kernel
theorem dX1_findEarly_30 : decode cX1_findEarly 30 = .ok (.invokevirtual 171, 3) := by decide +kernel
theorem dX1_findEarly_33 : decode cX1_findEarly 33 = .ok (.if_icmp .ge 61, 3) := by decide +kernel
theorem dX1_findEarly_36 : decode cX1_findEarly 36 = .ok (.aload_n 1, 1) := by decide +kernel
theorem dX1_findEarly_37 : decode cX1_findEarly 37 = .ok (.iload_n 2, 1) := by decide +kernel
theorem dX1_findEarly_38 : decode cX1_findEarly 38 = .ok (.iload 4, 2) := by decide +kernel
theorem dX1_findEarly_40 : decode cX1_findEarly 40 = .ok (.invokevirtual 174, 3) := by decide +kernel
theorem dX1_findEarly_43 : decode cX1_findEarly 43 = .ok (.istore 5, 2) := by decide +kernel
theorem dX1_findEarly_45 : decode cX1_findEarly 45 = .ok (.iload_n 3, 1) := by decide +kernel
theorem dX1_findEarly_46 : decode cX1_findEarly 46 = .ok (.aload_n 1, 1) := by decide +kernel
theorem dX1_findEarly_47 : decode cX1_findEarly 47 = .ok (.iload 5, 2) := by decide +kernel
theorem dX1_findEarly_49 : decode cX1_findEarly 49 = .ok (.invokevirtual 168, 3) := by decide +kernel
theorem dX1_findEarly_52 : decode cX1_findEarly 52 = .ok (.ifCond .eq 33, 3) := by decide +kernel
theorem dX1_findEarly_55 : decode cX1_findEarly 55 = .ok (.aload_n 0, 1) := by decide +kernel
theorem dX1_findEarly_56 : decode cX1_findEarly 56 = .ok (.getfield 22, 3) := by decide +kernel
theorem dX1_findEarly_59 : decode cX1_findEarly 59 = .ok (.iload 5, 2) := by decide +kernel
theorem dX1_findEarly_61 : decode cX1_findEarly 61 = .ok (.iaload, 1) := by decide +kernel
theorem dX1_findEarly_62 : decode cX1_findEarly 62 = .ok (.iconst (-1), 1) := by decide +kernel
theorem dX1_findEarly_63 : decode cX1_findEarly 63 = .ok (.ixor, 1) := by decide +kernel
theorem dX1_findEarly_64 : decode cX1_findEarly 64 = .ok (.aload_n 0, 1) := by decide +kernel
theorem dX1_findEarly_65 : decode cX1_findEarly 65 = .ok (.getfield 25, 3) := by decide +kernel
theorem dX1_findEarly_68 : decode cX1_findEarly 68 = .ok (.iload 5, 2) := by decide +kernel
theorem dX1_findEarly_70 : decode cX1_findEarly 70 = .ok (.iaload, 1) := by decide +kernel
theorem dX1_findEarly_71 : decode cX1_findEarly 71 = .ok (.aload_n 0, 1) := by decide +kernel
theorem dX1_findEarly_72 : decode cX1_findEarly 72 = .ok (.getfield 28, 3) := by decide +kernel
theorem dX1_findEarly_75 : decode cX1_findEarly 75 = .ok (.iload 5, 2) := by decide +kernel
theorem dX1_findEarly_77 : decode cX1_findEarly 77 = .ok (.iaload, 1) := by decide +kernel
theorem dX1_findEarly_78 : decode cX1_findEarly 78 = .ok (.ior, 1) := by decide +kernel
theorem dX1_findEarly_79 : decode cX1_findEarly 79 = .ok (.iconst (-1), 1) := by decide +kernel
theorem dX1_findEarly_80 : decode cX1_findEarly 80 = .ok (.ixor, 1) := by decide +kernel
theorem dX1_findEarly_81 : decode cX1_findEarly 81 = .ok (.ior, 1) := by decide +kernel
theorem dX1_findEarly_82 : decode cX1_findEarly 82 = .ok (.goto 4, 3) := by decide +kernel
theorem dX1_findEarly_85 : decode cX1_findEarly 85 = .ok (.iconst 0, 1) := by decide +kernel
theorem dX1_findEarly_86 : decode cX1_findEarly 86 = .ok (.ior, 1) := by decide +kernel
theorem dX1_findEarly_87 : decode cX1_findEarly 87 = .ok (.istore_n 3, 1) := by decide +kernel
theorem dX1_findEarly_88 : decode cX1_findEarly 88 = .ok (.iinc 4 1, 3) := by decide +kernel
theorem dX1_findEarly_91 : decode cX1_findEarly 91 = .ok (.goto (-65), 3) := by decide +kernel
theorem dX1_findEarly_94 : decode cX1_findEarly 94 = .ok (.aload_n 0, 1) := by decide +kernel
theorem dX1_findEarly_95 : decode cX1_findEarly 95 = .ok (.getfield 31, 3) := by decide +kernel
theorem dX1_findEarly_98 : decode cX1_findEarly 98 = .ok (.iload_n 2, 1) := by decide +kernel
theorem dX1_findEarly_99 : decode cX1_findEarly 99 = .ok (.aload_n 0, 1) := by decide +kernel
theorem dX1_findEarly_100 : decode cX1_findEarly 100 = .ok (.getfield 25, 3) := by decide +kernel
theorem dX1_findEarly_103 : decode cX1_findEarly 103 = .ok (.iload_n 2, 1) := by decide +kernel
theorem dX1_findEarly_104 : decode cX1_findEarly 104 = .ok (.iaload, 1) := by decide +kernel
theorem dX1_findEarly_105 : decode cX1_findEarly 105 = .ok (.iload_n 3, 1) := by decide +kernel
theorem dX1_findEarly_106 : decode cX1_findEarly 106 = .ok (.iand, 1) := by decide +kernel
theorem dX1_findEarly_107 : decode cX1_findEarly 107 = .ok (.iastore, 1) := by decide +kernel
theorem dX1_findEarly_108 : decode cX1_findEarly 108 = .ok (.iinc 2 1, 3) := by decide +kernel
theorem dX1_findEarly_111 : decode cX1_findEarly 111 = .ok (.goto (-109), 3) := by decide +kernel
theorem dX1_findEarly_114 : decode cX1_findEarly 114 = .ok (.return_, 1) := by decide +kernel
theorem dX1_findDelayed_0 : decode cX1_findDelayed 0 = .ok (.iconst 0, 1) := by decide +kernel
theorem dX1_findDelayed_1 : decode cX1_findDelayed 1 = .ok (.istore_n 2, 1) := by decide +kernel
theorem dX1_findDelayed_2 : decode cX1_findDelayed 2 = .ok (.iload_n 2, 1) := by decide +kernel
theorem dX1_findDelayed_3 : decode cX1_findDelayed 3 = .ok (.aload_n 1, 1) := by decide +kernel
theorem dX1_findDelayed_4 : decode cX1_findDelayed 4 = .ok (.getfield 67, 3) := by decide +kernel
theorem dX1_findDelayed_7 : decode cX1_findDelayed 7 = .ok (.if_icmp .ge 44, 3) := by decide +kernel
theorem dX1_findDelayed_10 : decode cX1_findDelayed 10 = .ok (.aload_n 0, 1) := by decide +kernel
theorem dX1_findDelayed_11 : decode cX1_findDelayed 11 = .ok (.getfield 12, 3) := by decide +kernel
theorem dX1_findDelayed_14 : decode cX1_findDelayed 14 = .ok (.iload_n 2, 1) := by decide +kernel
theorem dX1_findDelayed_15 : decode cX1_findDelayed 15 = .ok (.aload_n 0, 1) := by decide +kernel
theorem dX1_findDelayed_16 : decode cX1_findDelayed 16 = .ok (.getfield 31, 3) := by decide +kernel
theorem dX1_findDelayed_19 : decode cX1_findDelayed 19 = .ok (.iload_n 2, 1) := by decide +kernel
theorem dX1_findDelayed_20 : decode cX1_findDelayed 20 = .ok (.iaload, 1) := by decide +kernel
theorem dX1_findDelayed_21 : decode cX1_findDelayed 21 = .ok (.iload_n 2, 1) := by decide +kernel
theorem dX1_findDelayed_22 : decode cX1_findDelayed 22 = .ok (.ifCond .ne 7, 3) := by decide +kernel
theorem dX1_findDelayed_25 : decode cX1_findDelayed 25 = .ok (.iconst 0, 1) := by decide +kernel
theorem dX1_findDelayed_26 : decode cX1_findDelayed 26 = .ok (.goto 7, 3) := by decide +kernel
theorem dX1_findDelayed_29 : decode cX1_findDelayed 29 = .ok (.aload_n 0, 1) := by decide +kernel
theorem dX1_findDelayed_30 : decode cX1_findDelayed 30 = .ok (.getfield 64, 3) := by decide +kernel
theorem dX1_findDelayed_33 : decode cX1_findDelayed 33 = .ok (.iconst 0, 1) := by decide +kernel
theorem dX1_findDelayed_34 : decode cX1_findDelayed 34 = .ok (.aload_n 0, 1) := by decide +kernel
theorem dX1_findDelayed_35 : decode cX1_findDelayed 35 = .ok (.getfield 18, 3) := by decide +kernel
theorem dX1_findDelayed_38 : decode cX1_findDelayed 38 = .ok (.iload_n 2, 1) := by decide +kernel
theorem dX1_findDelayed_39 : decode cX1_findDelayed 39 = .ok (.iaload, 1) := by decide +kernel
theorem dX1_findDelayed_40 : decode cX1_findDelayed 40 = .ok (.iconst (-1), 1) := by decide +kernel
theorem dX1_findDelayed_41 : decode cX1_findDelayed 41 = .ok (.ixor, 1) := by decide +kernel
theorem dX1_findDelayed_42 : decode cX1_findDelayed 42 = .ok (.invokevirtual 145, 3) := by decide +kernel
theorem dX1_findDelayed_45 : decode cX1_findDelayed 45 = .ok (.iinc 2 1, 3) := by decide +kernel
theorem dX1_findDelayed_48 : decode cX1_findDelayed 48 = .ok (.goto (-46), 3) := by decide +kernel
theorem dX1_findDelayed_51 : decode cX1_findDelayed 51 = .ok (.aload_n 0, 1) := by decide +kernel
theorem dX1_findDelayed_52 : decode cX1_findDelayed 52 = .ok (.getfield 12, 3) := by decide +kernel
theorem dX1_findDelayed_55 : decode cX1_findDelayed 55 = .ok (.aload_n 1, 1) := by decide +kernel
theorem dX1_findDelayed_56 : decode cX1_findDelayed 56 = .ok (.aload_n 0, 1) := by decide +kernel
theorem dX1_findDelayed_57 : decode cX1_findDelayed 57 = .ok (.getfield 34, 3) := by decide +kernel
theorem dX1_findDelayed_60 : decode cX1_findDelayed 60 = .ok (.aload_n 0, 1) := by decide +kernel
theorem dX1_findDelayed_61 : decode cX1_findDelayed 61 = .ok (.getfield 64, 3) := by decide +kernel
theorem dX1_findDelayed_64 : decode cX1_findDelayed 64 = .ok (.iconst 0, 1) := by decide +kernel
theorem dX1_findDelayed_65 : decode cX1_findDelayed 65 = .ok (.iconst 1, 1) := by decide +kernel
theorem dX1_findDelayed_66 : decode cX1_findDelayed 66 = .ok (.invokevirtual 149, 3) := by decide +kernel
theorem dX1_findDelayed_69 : decode cX1_findDelayed 69 = .ok (.return_, 1) := by decide +kernel
theorem dX1_findLate_0 : decode cX1_findLate 0 = .ok (.iconst 0, 1) := by decide +kernel
theorem dX1_findLate_1 : decode cX1_findLate 1 = .ok (.istore_n 2, 1) := by decide +kernel
theorem dX1_findLate_2 : decode cX1_findLate 2 = .ok (.iload_n 2, 1) := by decide +kernel
theorem dX1_findLate_3 : decode cX1_findLate 3 = .ok (.aload_n 1, 1) := by decide +kernel
theorem dX1_findLate_4 : decode cX1_findLate 4 = .ok (.getfield 67, 3) := by decide +kernel
theorem dX1_findLate_7 : decode cX1_findLate 7 = .ok (.if_icmp .ge 88, 3) := by decide +kernel
theorem dX1_findLate_10 : decode cX1_findLate 10 = .ok (.aload_n 0, 1) := by decide +kernel
theorem dX1_findLate_11 : decode cX1_findLate 11 = .ok (.getfield 64, 3) := by decide +kernel
theorem dX1_findLate_14 : decode cX1_findLate 14 = .ok (.istore_n 3, 1) := by decide +kernel
theorem dX1_findLate_15 : decode cX1_findLate 15 = .ok (.iconst 0, 1) := by decide +kernel
theorem dX1_findLate_16 : decode cX1_findLate 16 = .ok (.istore 4, 2) := by decide +kernel
theorem dX1_findLate_18 : decode cX1_findLate 18 = .ok (.iload 4, 2) := by decide +kernel
theorem dX1_findLate_20 : decode cX1_findLate 20 = .ok (.aload_n 1, 1) := by decide +kernel
theorem dX1_findLate_21 : decode cX1_findLate 21 = .ok (.iload_n 2, 1) := by decide +kernel
theorem dX1_findLate_22 : decode cX1_findLate 22 = .ok (.invokevirtual 138, 3) := by decide +kernel
theorem dX1_findLate_25 : decode cX1_findLate 25 = .ok (.if_icmp .ge 41, 3) := by decide +kernel
theorem dX1_findLate_28 : decode cX1_findLate 28 = .ok (.aload_n 1, 1) := by decide +kernel
theorem dX1_findLate_29 : decode cX1_findLate 29 = .ok (.iload_n 2, 1) := by decide +kernel
theorem dX1_findLate_30 : decode cX1_findLate 30 = .ok (.iload 4, 2) := by decide +kernel
theorem dX1_findLate_32 : decode cX1_findLate 32 = .ok (.invokevirtual 164, 3) := by decide +kernel
theorem dX1_findLate_35 : decode cX1_findLate 35 = .ok (.istore 5, 2) := by decide +kernel
theorem dX1_findLate_37 : decode cX1_findLate 37 = .ok (.iload_n 3, 1) := by decide +kernel
theorem dX1_findLate_38 : decode cX1_findLate 38 = .ok (.aload_n 1, 1) := by decide +kernel
theorem dX1_findLate_39 : decode cX1_findLate 39 = .ok (.iload 5, 2) := by decide +kernel
theorem dX1_findLate_41 : decode cX1_findLate 41 = .ok (.invokevirtual 168, 3) := by decide +kernel
theorem dX1_findLate_44 : decode cX1_findLate 44 = .ok (.ifCond .eq 13, 3) := by decide +kernel
theorem dX1_findLate_47 : decode cX1_findLate 47 = .ok (.aload_n 0, 1) := by decide +kernel
theorem dX1_findLate_48 : decode cX1_findLate 48 = .ok (.getfield 34, 3) := by decide +kernel
theorem dX1_findLate_51 : decode cX1_findLate 51 = .ok (.iload 5, 2) := by decide +kernel
theorem dX1_findLate_53 : decode cX1_findLate 53 = .ok (.iaload, 1) := by decide +kernel
theorem dX1_findLate_54 : decode cX1_findLate 54 = .ok (.goto 4, 3) := by decide +kernel
theorem dX1_findLate_57 : decode cX1_findLate 57 = .ok (.iconst 0, 1) := by decide +kernel
theorem dX1_findLate_58 : decode cX1_findLate 58 = .ok (.iand, 1) := by decide +kernel
theorem dX1_findLate_59 : decode cX1_findLate 59 = .ok (.istore_n 3, 1) := by decide +kernel
theorem dX1_findLate_60 : decode cX1_findLate 60 = .ok (.iinc 4 1, 3) := by decide +kernel
theorem dX1_findLate_63 : decode cX1_findLate 63 = .ok (.goto (-45), 3) := by decide +kernel
theorem dX1_findLate_66 : decode cX1_findLate 66 = .ok (.aload_n 0, 1) := by decide +kernel
theorem dX1_findLate_67 : decode cX1_findLate 67 = .ok (.getfield 37, 3) := by decide +kernel
theorem dX1_findLate_70 : decode cX1_findLate 70 = .ok (.iload_n 2, 1) := by decide +kernel
theorem dX1_findLate_71 : decode cX1_findLate 71 = .ok (.aload_n 0, 1) := by decide +kernel
theorem dX1_findLate_72 : decode cX1_findLate 72 = .ok (.getfield 34, 3) := by decide +kernel
theorem dX1_findLate_75 : decode cX1_findLate 75 = .ok (.iload_n 2, 1) := by decide +kernel
theorem dX1_findLate_76 : decode cX1_findLate 76 = .ok (.iaload, 1) := by decide +kernel
theorem dX1_findLate_77 : decode cX1_findLate 77 = .ok (.aload_n 0, 1) := by decide +kernel
theorem dX1_findLate_78 : decode cX1_findLate 78 = .ok (.getfield 18, 3) := by decide +kernel
theorem dX1_findLate_81 : decode cX1_findLate 81 = .ok (.iload_n 2, 1) := by decide +kernel
theorem dX1_findLate_82 : decode cX1_findLate 82 = .ok (.iaload, 1) := by decide +kernel
theorem dX1_findLate_83 : decode cX1_findLate 83 = .ok (.iload_n 3, 1) := by decide +kernel
theorem dX1_findLate_84 : decode cX1_findLate 84 = .ok (.iconst (-1), 1) := by decide +kernel
theorem dX1_findLate_85 : decode cX1_findLate 85 = .ok (.ixor, 1) := by decide +kernel
theorem dX1_findLate_86 : decode cX1_findLate 86 = .ok (.ior, 1) := by decide +kernel
theorem dX1_findLate_87 : decode cX1_findLate 87 = .ok (.iand, 1) := by decide +kernel
theorem dX1_findLate_88 : decode cX1_findLate 88 = .ok (.iastore, 1) := by decide +kernel
theorem dX1_findLate_89 : decode cX1_findLate 89 = .ok (.iinc 2 1, 3) := by decide +kernel
theorem dX1_findLate_92 : decode cX1_findLate 92 = .ok (.goto (-90), 3) := by decide +kernel
theorem dX1_findLate_95 : decode cX1_findLate 95 = .ok (.return_, 1) := by decide +kernel
theorem dX1_findAlone_0 : decode cX1_findAlone 0 = .ok (.iconst 0, 1) := by decide +kernel
theorem dX1_findAlone_1 : decode cX1_findAlone 1 = .ok (.istore_n 2, 1) := by decide +kernel
theorem dX1_findAlone_2 : decode cX1_findAlone 2 = .ok (.iload_n 2, 1) := by decide +kernel
theorem dX1_findAlone_3 : decode cX1_findAlone 3 = .ok (.aload_n 1, 1) := by decide +kernel
theorem dX1_findAlone_4 : decode cX1_findAlone 4 = .ok (.getfield 67, 3) := by decide +kernel
theorem dX1_findAlone_7 : decode cX1_findAlone 7 = .ok (.if_icmp .ge 36, 3) := by decide +kernel
theorem dX1_findAlone_10 : decode cX1_findAlone 10 = .ok (.aload_n 0, 1) := by decide +kernel
theorem dX1_findAlone_11 : decode cX1_findAlone 11 = .ok (.getfield 12, 3) := by decide +kernel
theorem dX1_findAlone_14 : decode cX1_findAlone 14 = .ok (.iload_n 2, 1) := by decide +kernel
theorem dX1_findAlone_15 : decode cX1_findAlone 15 = .ok (.iconst 0, 1) := by decide +kernel
theorem dX1_findAlone_16 : decode cX1_findAlone 16 = .ok (.aload_n 0, 1) := by decide +kernel
theorem dX1_findAlone_17 : decode cX1_findAlone 17 = .ok (.getfield 64, 3) := by decide +kernel
theorem dX1_findAlone_20 : decode cX1_findAlone 20 = .ok (.aload_n 0, 1) := by decide +kernel
theorem dX1_findAlone_21 : decode cX1_findAlone 21 = .ok (.getfield 37, 3) := by decide +kernel
theorem dX1_findAlone_24 : decode cX1_findAlone 24 = .ok (.iload_n 2, 1) := by decide +kernel
theorem dX1_findAlone_25 : decode cX1_findAlone 25 = .ok (.iaload, 1) := by decide +kernel
theorem dX1_findAlone_26 : decode cX1_findAlone 26 = .ok (.aload_n 0, 1) := by decide +kernel
theorem dX1_findAlone_27 : decode cX1_findAlone 27 = .ok (.getfield 18, 3) := by decide +kernel
theorem dX1_findAlone_30 : decode cX1_findAlone 30 = .ok (.iload_n 2, 1) := by decide +kernel
theorem dX1_findAlone_31 : decode cX1_findAlone 31 = .ok (.iaload, 1) := by decide +kernel
theorem dX1_findAlone_32 : decode cX1_findAlone 32 = .ok (.iconst (-1), 1) := by decide +kernel
theorem dX1_findAlone_33 : decode cX1_findAlone 33 = .ok (.ixor, 1) := by decide +kernel
theorem dX1_findAlone_34 : decode cX1_findAlone 34 = .ok (.invokevirtual 145, 3) := by decide +kernel
theorem dX1_findAlone_37 : decode cX1_findAlone 37 = .ok (.iinc 2 1, 3) := by decide +kernel
theorem dX1_findAlone_40 : decode cX1_findAlone 40 = .ok (.goto (-38), 3) := by decide +kernel
theorem dX1_findAlone_43 : decode cX1_findAlone 43 = .ok (.aload_n 0, 1) := by decide +kernel
theorem dX1_findAlone_44 : decode cX1_findAlone 44 = .ok (.getfield 12, 3) := by decide +kernel
theorem dX1_findAlone_47 : decode cX1_findAlone 47 = .ok (.aload_n 1, 1) := by decide +kernel
theorem dX1_findAlone_48 : decode cX1_findAlone 48 = .ok (.aload_n 0, 1) := by decide +kernel
theorem dX1_findAlone_49 : decode cX1_findAlone 49 = .ok (.getfield 40, 3) := by decide +kernel
theorem dX1_findAlone_52 : decode cX1_findAlone 52 = .ok (.aload_n 0, 1) := by decide +kernel
theorem dX1_findAlone_53 : decode cX1_findAlone 53 = .ok (.getfield 64, 3) := by decide +kernel
theorem dX1_findAlone_56 : decode cX1_findAlone 56 = .ok (.iconst 1, 1) := by decide +kernel
theorem dX1_findAlone_57 : decode cX1_findAlone 57 = .ok (.iconst 1, 1) := by decide +kernel
theorem dX1_findAlone_58 : decode cX1_findAlone 58 = .ok (.invokevirtual 149, 3) := by decide +kernel
theorem dX1_findAlone_61 : decode cX1_findAlone 61 = .ok (.return_, 1) := by decide +kernel
theorem dX2_init_0 : decode cX2_init 0 = .ok (.aload_n 0, 1) := by decide +kernel
theorem dX2_init_1 : decode cX2_init 1 = .ok (.invokespecial 3, 3) := by decide +kernel
theorem dX2_init_4 : decode cX2_init 4 = .ok (.aload_n 0, 1) := by decide +kernel
theorem dX2_init_5 : decode cX2_init 5 = .ok (.sipush 128, 3) := by decide +kernel
theorem dX2_init_8 : decode cX2_init 8 = .ok (.newarray .int, 2) := by decide +kernel
theorem dX2_init_10 : decode cX2_init 10 = .ok (.putfield 9, 3) := by decide +kernel
theorem dX2_init_13 : decode cX2_init 13 = .ok (.aload_n 0, 1) := by decide +kernel
theorem dX2_init_14 : decode cX2_init 14 = .ok (.sipush 128, 3) := by decide +kernel
theorem dX2_init_17 : decode cX2_init 17 = .ok (.newarray .int, 2) := by decide +kernel
theorem dX2_init_19 : decode cX2_init 19 = .ok (.putfield 15, 3) := by decide +kernel
theorem dX2_init_22 : decode cX2_init 22 = .ok (.aload_n 0, 1) := by decide +kernel
theorem dX2_init_23 : decode cX2_init 23 = .ok (.sipush 128, 3) := by decide +kernel
theorem dX2_init_26 : decode cX2_init 26 = .ok (.newarray .int, 2) := by decide +kernel
theorem dX2_init_28 : decode cX2_init 28 = .ok (.putfield 18, 3) := by decide +kernel
theorem dX2_init_31 : decode cX2_init 31 = .ok (.aload_n 0, 1) := by decide +kernel
theorem dX2_init_32 : decode cX2_init 32 = .ok (.sipush 128, 3) := by decide +kernel
theorem dX2_init_35 : decode cX2_init 35 = .ok (.newarray .int, 2) := by decide +kernel
theorem dX2_init_37 : decode cX2_init 37 = .ok (.putfield 21, 3) := by decide +kernel
theorem dX2_init_40 : decode cX2_init 40 = .ok (.return_, 1) := by decide +kernel
theorem dX2_tell_0 : decode cX2_tell 0 = .ok (.iload_n 1, 1) := by decide +kernel
theorem dX2_tell_1 : decode cX2_tell 1 = .ok (.ifCond .lt 40, 3) := by decide +kernel
theorem dX2_tell_4 : decode cX2_tell 4 = .ok (.iload_n 1, 1) := by decide +kernel
theorem dX2_tell_5 : decode cX2_tell 5 = .ok (.sipush 128, 3) := by decide +kernel
theorem dX2_tell_8 : decode cX2_tell 8 = .ok (.if_icmp .ge 33, 3) := by decide +kernel
theorem dX2_tell_11 : decode cX2_tell 11 = .ok (.aload_n 0, 1) := by decide +kernel
theorem dX2_tell_12 : decode cX2_tell 12 = .ok (.getfield 9, 3) := by decide +kernel
theorem dX2_tell_15 : decode cX2_tell 15 = .ok (.iload_n 1, 1) := by decide +kernel
theorem dX2_tell_16 : decode cX2_tell 16 = .ok (.iload_n 2, 1) := by decide +kernel
theorem dX2_tell_17 : decode cX2_tell 17 = .ok (.iastore, 1) := by decide +kernel
theorem dX2_tell_18 : decode cX2_tell 18 = .ok (.aload_n 0, 1) := by decide +kernel
theorem dX2_tell_19 : decode cX2_tell 19 = .ok (.getfield 15, 3) := by decide +kernel
theorem dX2_tell_22 : decode cX2_tell 22 = .ok (.iload_n 1, 1) := by decide +kernel
theorem dX2_tell_23 : decode cX2_tell 23 = .ok (.iload_n 3, 1) := by decide +kernel
theorem dX2_tell_24 : decode cX2_tell 24 = .ok (.iastore, 1) := by decide +kernel
theorem dX2_tell_25 : decode cX2_tell 25 = .ok (.aload_n 0, 1) := by decide +kernel
theorem dX2_tell_26 : decode cX2_tell 26 = .ok (.getfield 18, 3) := by decide +kernel
theorem dX2_tell_29 : decode cX2_tell 29 = .ok (.iload_n 1, 1) := by decide +kernel
theorem dX2_tell_30 : decode cX2_tell 30 = .ok (.iload 4, 2) := by decide +kernel
theorem dX2_tell_32 : decode cX2_tell 32 = .ok (.iastore, 1) := by decide +kernel
theorem dX2_tell_33 : decode cX2_tell 33 = .ok (.aload_n 0, 1) := by decide +kernel
theorem dX2_tell_34 : decode cX2_tell 34 = .ok (.getfield 21, 3) := by decide +kernel
theorem dX2_tell_37 : decode cX2_tell 37 = .ok (.iload_n 1, 1) := by decide +kernel
theorem dX2_tell_38 : decode cX2_tell 38 = .ok (.iload 5, 2) := by decide +kernel
theorem dX2_tell_40 : decode cX2_tell 40 = .ok (.iastore, 1) := by decide +kernel
theorem dX2_tell_41 : decode cX2_tell 41 = .ok (.return_, 1) := by decide +kernel
theorem dX2_solve_0 : decode cX2_solve 0 = .ok (.aload_n 2, 1) := by decide +kernel
theorem dX2_solve_1 : decode cX2_solve 1 = .ok (.iload 5, 2) := by decide +kernel
theorem dX2_solve_3 : decode cX2_solve 3 = .ok (.ifCond .eq 7, 3) := by decide +kernel
theorem dX2_solve_6 : decode cX2_solve 6 = .ok (.iload_n 3, 1) := by decide +kernel
theorem dX2_solve_7 : decode cX2_solve 7 = .ok (.goto 4, 3) := by decide +kernel
theorem dX2_solve_10 : decode cX2_solve 10 = .ok (.iconst 0, 1) := by decide +kernel
theorem dX2_solve_11 : decode cX2_solve 11 = .ok (.invokestatic 24, 3) := by decide +kernel
theorem dX2_solve_14 : decode cX2_solve 14 = .ok (.iconst 1, 1) := by decide +kernel
theorem dX2_solve_15 : decode cX2_solve 15 = .ok (.istore 6, 2) := by decide +kernel
theorem dX2_solve_17 : decode cX2_solve 17 = .ok (.iconst 0, 1) := by decide +kernel
theorem dX2_solve_18 : decode cX2_solve 18 = .ok (.istore 7, 2) := by decide +kernel
theorem dX2_solve_20 : decode cX2_solve 20 = .ok (.iload 6, 2) := by decide +kernel
theorem dX2_solve_22 : decode cX2_solve 22 = .ok (.ifCond .eq 137, 3) := by decide +kernel
theorem dX2_solve_25 : decode cX2_solve 25 = .ok (.iload 7, 2) := by decide +kernel
theorem dX2_solve_27 : decode cX2_solve 27 = .ok (.sipush 1000, 3) := by decide +kernel
theorem dX2_solve_30 : decode cX2_solve 30 = .ok (.if_icmp .ge 129, 3) := by decide +kernel
theorem dX2_solve_33 : decode cX2_solve 33 = .ok (.iconst 0, 1) := by decide +kernel
theorem dX2_solve_34 : decode cX2_solve 34 = .ok (.istore 6, 2) := by decide +kernel
theorem dX2_solve_36 : decode cX2_solve 36 = .ok (.iconst 0, 1) := by decide +kernel
theorem dX2_solve_37 : decode cX2_solve 37 = .ok (.istore 8, 2) := by decide +kernel
theorem dX2_solve_39 : decode cX2_solve 39 = .ok (.iload 8, 2) := by decide +kernel
theorem dX2_solve_41 : decode cX2_solve 41 = .ok (.aload_n 1, 1) := by decide +kernel
theorem dX2_solve_42 : decode cX2_solve 42 = .ok (.getfield 30, 3) := by decide +kernel
theorem dX2_solve_45 : decode cX2_solve 45 = .ok (.if_icmp .ge 108, 3) := by decide +kernel
theorem dX2_solve_48 : decode cX2_solve 48 = .ok (.iload 4, 2) := by decide +kernel
theorem dX2_solve_50 : decode cX2_solve 50 = .ok (.ifCond .eq 15, 3) := by decide +kernel
theorem dX2_solve_53 : decode cX2_solve 53 = .ok (.aload_n 1, 1) := by decide +kernel
theorem dX2_solve_54 : decode cX2_solve 54 = .ok (.getfield 30, 3) := by decide +kernel
theorem dX2_solve_57 : decode cX2_solve 57 = .ok (.iconst 1, 1) := by decide +kernel
theorem dX2_solve_58 : decode cX2_solve 58 = .ok (.isub, 1) := by decide +kernel
theorem dX2_solve_59 : decode cX2_solve 59 = .ok (.iload 8, 2) := by decide +kernel
theorem dX2_solve_61 : decode cX2_solve 61 = .ok (.isub, 1) := by decide +kernel
theorem dX2_solve_62 : decode cX2_solve 62 = .ok (.goto 5, 3) := by decide +kernel
theorem dX2_solve_65 : decode cX2_solve 65 = .ok (.iload 8, 2) := by decide +kernel
theorem dX2_solve_67 : decode cX2_solve 67 = .ok (.istore 9, 2) := by decide +kernel
theorem dX2_solve_69 : decode cX2_solve 69 = .ok (.iload 5, 2) := by decide +kernel
theorem dX2_solve_71 : decode cX2_solve 71 = .ok (.ifCond .eq 17, 3) := by decide +kernel
theorem dX2_solve_74 : decode cX2_solve 74 = .ok (.aload_n 0, 1) := by decide +kernel
theorem dX2_solve_75 : decode cX2_solve 75 = .ok (.aload_n 1, 1) := by decide +kernel
theorem dX2_solve_76 : decode cX2_solve 76 = .ok (.aload_n 2, 1) := by decide +kernel
theorem dX2_solve_77 : decode cX2_solve 77 = .ok (.iload 9, 2) := by decide +kernel
theorem dX2_solve_79 : decode cX2_solve 79 = .ok (.iload 4, 2) := by decide +kernel
theorem dX2_solve_81 : decode cX2_solve 81 = .ok (.iload_n 3, 1) := by decide +kernel
theorem dX2_solve_82 : decode cX2_solve 82 = .ok (.invokevirtual 36, 3) := by decide +kernel
theorem dX2_solve_85 : decode cX2_solve 85 = .ok (.goto 13, 3) := by decide +kernel
theorem dX2_solve_88 : decode cX2_solve 88 = .ok (.aload_n 0, 1) := by decide +kernel
theorem dX2_solve_89 : decode cX2_solve 89 = .ok (.aload_n 1, 1) := by decide +kernel
theorem dX2_solve_90 : decode cX2_solve 90 = .ok (.aload_n 2, 1) := by decide +kernel
theorem dX2_solve_91 : decode cX2_solve 91 = .ok (.iload 9, 2) := by decide +kernel
theorem dX2_solve_93 : decode cX2_solve 93 = .ok (.iload 4, 2) := by decide +kernel
theorem dX2_solve_95 : decode cX2_solve 95 = .ok (.invokevirtual 40, 3) := by decide +kernel
theorem dX2_solve_98 : decode cX2_solve 98 = .ok (.istore 10, 2) := by decide +kernel
theorem dX2_solve_100 : decode cX2_solve 100 = .ok (.aload_n 0, 1) := by decide +kernel
theorem dX2_solve_101 : decode cX2_solve 101 = .ok (.getfield 9, 3) := by decide +kernel
theorem dX2_solve_104 : decode cX2_solve 104 = .ok (.iload 9, 2) := by decide +kernel
theorem dX2_solve_106 : decode cX2_solve 106 = .ok (.iaload, 1) := by decide +kernel
theorem dX2_solve_107 : decode cX2_solve 107 = .ok (.aload_n 0, 1) := by decide +kernel
theorem dX2_solve_108 : decode cX2_solve 108 = .ok (.getfield 15, 3) := by decide +kernel
theorem dX2_solve_111 : decode cX2_solve 111 = .ok (.iload 9, 2) := by decide +kernel
theorem dX2_solve_113 : decode cX2_solve 113 = .ok (.iaload, 1) := by decide +kernel
theorem dX2_solve_114 : decode cX2_solve 114 = .ok (.iload 10, 2) := by decide +kernel
theorem dX2_solve_116 : decode cX2_solve 116 = .ok (.iand, 1) := by decide +kernel
theorem dX2_solve_117 : decode cX2_solve 117 = .ok (.ior, 1) := by decide +kernel
theorem dX2_solve_118 : decode cX2_solve 118 = .ok (.istore 11, 2) := by decide +kernel
theorem dX2_solve_120 : decode cX2_solve 120 = .ok (.iload 6, 2) := by decide +kernel
theorem dX2_solve_122 : decode cX2_solve 122 = .ok (.ifCond .ne 12, 3) := by decide +kernel
theorem dX2_solve_125 : decode cX2_solve 125 = .ok (.iload 11, 2) := by decide +kernel
theorem dX2_solve_127 : decode cX2_solve 127 = .ok (.aload_n 2, 1) := by decide +kernel
theorem dX2_solve_128 : decode cX2_solve 128 = .ok (.iload 9, 2) := by decide +kernel
theorem dX2_solve_130 : decode cX2_solve 130 = .ok (.iaload, 1) := by decide +kernel
theorem dX2_solve_131 : decode cX2_solve 131 = .ok (.if_icmp .eq 7, 3) := by decide +kernel
theorem dX2_solve_134 : decode cX2_solve 134 = .ok (.iconst 1, 1) := by decide +kernel
theorem dX2_solve_135 : decode cX2_solve 135 = .ok (.goto 4, 3) := by decide +kernel
theorem dX2_solve_138 : decode cX2_solve 138 = .ok (.iconst 0, 1) := by decide +kernel
theorem dX2_solve_139 : decode cX2_solve 139 = .ok (.istore 6, 2) := by decide +kernel
theorem dX2_solve_141 : decode cX2_solve 141 = .ok (.aload_n 2, 1) := by decide +kernel
theorem dX2_solve_142 : decode cX2_solve 142 = .ok (.iload 9, 2) := by decide +kernel
theorem dX2_solve_144 : decode cX2_solve 144 = .ok (.iload 11, 2) := by decide +kernel
theorem dX2_solve_146 : decode cX2_solve 146 = .ok (.iastore, 1) := by decide +kernel
theorem dX2_solve_147 : decode cX2_solve 147 = .ok (.iinc 8 1, 3) := by decide +kernel
theorem dX2_solve_150 : decode cX2_solve 150 = .ok (.goto (-111), 3) := by decide +kernel
theorem dX2_solve_153 : decode cX2_solve 153 = .ok (.iinc 7 1, 3) := by decide +kernel
theorem dX2_solve_156 : decode cX2_solve 156 = .ok (.goto (-136), 3) := by decide +kernel
theorem dX2_solve_159 : decode cX2_solve 159 = .ok (.return_, 1) := by decide +kernel
theorem dX2_inAll_0 : decode cX2_inAll 0 = .ok (.iload 5, 2) := by decide +kernel
theorem dX2_inAll_2 : decode cX2_inAll 2 = .ok (.istore 6, 2) := by decide +kernel
theorem dX2_inAll_4 : decode cX2_inAll 4 = .ok (.iload 4, 2) := by decide +kernel
theorem dX2_inAll_6 : decode cX2_inAll 6 = .ok (.ifCond .eq 11, 3) := by decide +kernel
theorem dX2_inAll_9 : decode cX2_inAll 9 = .ok (.aload_n 1, 1) := by decide +kernel
theorem dX2_inAll_10 : decode cX2_inAll 10 = .ok (.iload_n 3, 1) := by decide +kernel
theorem dX2_inAll_11 : decode cX2_inAll 11 = .ok (.invokevirtual 44, 3) := by decide +kernel
theorem dX2_inAll_14 : decode cX2_inAll 14 = .ok (.goto 8, 3) := by decide +kernel
theorem dX2_inAll_17 : decode cX2_inAll 17 = .ok (.aload_n 1, 1) := by decide +kernel
theorem dX2_inAll_18 : decode cX2_inAll 18 = .ok (.iload_n 3, 1) := by decide +kernel
theorem dX2_inAll_19 : decode cX2_inAll 19 = .ok (.invokevirtual 48, 3) := by decide +kernel
theorem dX2_inAll_22 : decode cX2_inAll 22 = .ok (.istore 7, 2) := by decide +kernel
theorem dX2_inAll_24 : decode cX2_inAll 24 = .ok (.iconst 0, 1) := by decide +kernel
theorem dX2_inAll_25 : decode cX2_inAll 25 = .ok (.istore 8, 2) := by decide +kernel
theorem dX2_inAll_27 : decode cX2_inAll 27 = .ok (.iload 8, 2) := by decide +kernel
theorem dX2_inAll_29 : decode cX2_inAll 29 = .ok (.iload 7, 2) := by decide +kernel
theorem dX2_inAll_31 : decode cX2_inAll 31 = .ok (.if_icmp .ge 42, 3) := by decide +kernel
theorem dX2_inAll_34 : decode cX2_inAll 34 = .ok (.iload 6, 2) := by decide +kernel
theorem dX2_inAll_36 : decode cX2_inAll 36 = .ok (.aload_n 0, 1) := by decide +kernel
theorem dX2_inAll_37 : decode cX2_inAll 37 = .ok (.aload_n 1, 1) := by decide +kernel
theorem dX2_inAll_38 : decode cX2_inAll 38 = .ok (.aload_n 2, 1) := by decide +kernel
theorem dX2_inAll_39 : decode cX2_inAll 39 = .ok (.iload 4, 2) := by decide +kernel
theorem dX2_inAll_41 : decode cX2_inAll 41 = .ok (.ifCond .eq 13, 3) := by decide +kernel
theorem dX2_inAll_44 : decode cX2_inAll 44 = .ok (.aload_n 1, 1) := by decide +kernel
theorem dX2_inAll_45 : decode cX2_inAll 45 = .ok (.iload_n 3, 1) := by decide +kernel
theorem dX2_inAll_46 : decode cX2_inAll 46 = .ok (.iload 8, 2) := by decide +kernel
theorem dX2_inAll_48 : decode cX2_inAll 48 = .ok (.invokevirtual 51, 3) := by decide +kernel
theorem dX2_inAll_51 : decode cX2_inAll 51 = .ok (.goto 10, 3) := by decide +kernel
theorem dX2_inAll_54 : decode cX2_inAll 54 = .ok (.aload_n 1, 1) := by decide +kernel
theorem dX2_inAll_55 : decode cX2_inAll 55 = .ok (.iload_n 3, 1) := by decide +kernel
theorem dX2_inAll_56 : decode cX2_inAll 56 = .ok (.iload 8, 2) := by decide +kernel
theorem dX2_inAll_58 : decode cX2_inAll 58 = .ok (.invokevirtual 55, 3) := by decide +kernel
theorem dX2_inAll_61 : decode cX2_inAll 61 = .ok (.invokevirtual 58, 3) := by decide +kernel
theorem dX2_inAll_64 : decode cX2_inAll 64 = .ok (.iand, 1) := by decide +kernel
theorem dX2_inAll_65 : decode cX2_inAll 65 = .ok (.istore 6, 2) := by decide +kernel
theorem dX2_inAll_67 : decode cX2_inAll 67 = .ok (.iinc 8 1, 3) := by decide +kernel
theorem dX2_inAll_70 : decode cX2_inAll 70 = .ok (.goto (-43), 3) := by decide +kernel
theorem dX2_inAll_73 : decode cX2_inAll 73 = .ok (.iload 6, 2) := by decide +kernel
theorem dX2_inAll_75 : decode cX2_inAll 75 = .ok (.ireturn, 1) := by decide +kernel
theorem dX2_inOne_0 : decode cX2_inOne 0 = .ok (.iconst 0, 1) := by decide +kernel
theorem dX2_inOne_1 : decode cX2_inOne 1 = .ok (.istore 5, 2) := by decide +kernel
theorem dX2_inOne_3 : decode cX2_inOne 3 = .ok (.iload 4, 2) := by decide +kernel
theorem dX2_inOne_5 : decode cX2_inOne 5 = .ok (.ifCond .eq 11, 3) := by decide +kernel
theorem dX2_inOne_8 : decode cX2_inOne 8 = .ok (.aload_n 1, 1) := by decide +kernel
theorem dX2_inOne_9 : decode cX2_inOne 9 = .ok (.iload_n 3, 1) := by decide +kernel
theorem dX2_inOne_10 : decode cX2_inOne 10 = .ok (.invokevirtual 44, 3) := by decide +kernel
theorem dX2_inOne_13 : decode cX2_inOne 13 = .ok (.goto 8, 3) := by decide +kernel
theorem dX2_inOne_16 : decode cX2_inOne 16 = .ok (.aload_n 1, 1) := by decide +kernel
theorem dX2_inOne_17 : decode cX2_inOne 17 = .ok (.iload_n 3, 1) := by decide +kernel
theorem dX2_inOne_18 : decode cX2_inOne 18 = .ok (.invokevirtual 48, 3) := by decide +kernel
theorem dX2_inOne_21 : decode cX2_inOne 21 = .ok (.istore 6, 2) := by decide +kernel
theorem dX2_inOne_23 : decode cX2_inOne 23 = .ok (.iconst 0, 1) := by decide +kernel
theorem dX2_inOne_24 : decode cX2_inOne 24 = .ok (.istore 7, 2) := by decide +kernel
theorem dX2_inOne_26 : decode cX2_inOne 26 = .ok (.iload 7, 2) := by decide +kernel
theorem dX2_inOne_28 : decode cX2_inOne 28 = .ok (.iload 6, 2) := by decide +kernel
theorem dX2_inOne_30 : decode cX2_inOne 30 = .ok (.if_icmp .ge 42, 3) := by decide +kernel
theorem dX2_inOne_33 : decode cX2_inOne 33 = .ok (.iload 5, 2) := by decide +kernel
theorem dX2_inOne_35 : decode cX2_inOne 35 = .ok (.aload_n 0, 1) := by decide +kernel
theorem dX2_inOne_36 : decode cX2_inOne 36 = .ok (.aload_n 1, 1) := by decide +kernel
theorem dX2_inOne_37 : decode cX2_inOne 37 = .ok (.aload_n 2, 1) := by decide +kernel
theorem dX2_inOne_38 : decode cX2_inOne 38 = .ok (.iload 4, 2) := by decide +kernel
theorem dX2_inOne_40 : decode cX2_inOne 40 = .ok (.ifCond .eq 13, 3) := by decide +kernel
theorem dX2_inOne_43 : decode cX2_inOne 43 = .ok (.aload_n 1, 1) := by decide +kernel
theorem dX2_inOne_44 : decode cX2_inOne 44 = .ok (.iload_n 3, 1) := by decide +kernel
theorem dX2_inOne_45 : decode cX2_inOne 45 = .ok (.iload 7, 2) := by decide +kernel
theorem dX2_inOne_47 : decode cX2_inOne 47 = .ok (.invokevirtual 51, 3) := by decide +kernel
theorem dX2_inOne_50 : decode cX2_inOne 50 = .ok (.goto 10, 3) := by decide +kernel
theorem dX2_inOne_53 : decode cX2_inOne 53 = .ok (.aload_n 1, 1) := by decide +kernel
theorem dX2_inOne_54 : decode cX2_inOne 54 = .ok (.iload_n 3, 1) := by decide +kernel
theorem dX2_inOne_55 : decode cX2_inOne 55 = .ok (.iload 7, 2) := by decide +kernel
theorem dX2_inOne_57 : decode cX2_inOne 57 = .ok (.invokevirtual 55, 3) := by decide +kernel
theorem dX2_inOne_60 : decode cX2_inOne 60 = .ok (.invokevirtual 58, 3) := by decide +kernel
theorem dX2_inOne_63 : decode cX2_inOne 63 = .ok (.ior, 1) := by decide +kernel
theorem dX2_inOne_64 : decode cX2_inOne 64 = .ok (.istore 5, 2) := by decide +kernel
theorem dX2_inOne_66 : decode cX2_inOne 66 = .ok (.iinc 7 1, 3) := by decide +kernel
theorem dX2_inOne_69 : decode cX2_inOne 69 = .ok (.goto (-43), 3) := by decide +kernel
theorem dX2_inOne_72 : decode cX2_inOne 72 = .ok (.iload 5, 2) := by decide +kernel
theorem dX2_inOne_74 : decode cX2_inOne 74 = .ok (.ireturn, 1) := by decide +kernel
theorem dX2_side_0 : decode cX2_side 0 = .ok (.aload_n 1, 1) := by decide +kernel
theorem dX2_side_1 : decode cX2_side 1 = .ok (.iload_n 3, 1) := by decide +kernel
theorem dX2_side_2 : decode cX2_side 2 = .ok (.invokevirtual 62, 3) := by decide +kernel
theorem dX2_side_5 : decode cX2_side 5 = .ok (.ifCond .eq 23, 3) := by decide +kernel
theorem dX2_side_8 : decode cX2_side 8 = .ok (.aload_n 0, 1) := by decide +kernel
theorem dX2_side_9 : decode cX2_side 9 = .ok (.getfield 18, 3) := by decide +kernel
theorem dX2_side_12 : decode cX2_side 12 = .ok (.iload_n 3, 1) := by decide +kernel
theorem dX2_side_13 : decode cX2_side 13 = .ok (.iaload, 1) := by decide +kernel
theorem dX2_side_14 : decode cX2_side 14 = .ok (.aload_n 0, 1) := by decide +kernel
theorem dX2_side_15 : decode cX2_side 15 = .ok (.getfield 21, 3) := by decide +kernel
theorem dX2_side_18 : decode cX2_side 18 = .ok (.iload_n 3, 1) := by decide +kernel
theorem dX2_side_19 : decode cX2_side 19 = .ok (.iaload, 1) := by decide +kernel
theorem dX2_side_20 : decode cX2_side 20 = .ok (.aload_n 2, 1) := by decide +kernel
theorem dX2_side_21 : decode cX2_side 21 = .ok (.iload_n 3, 1) := by decide +kernel
theorem dX2_side_22 : decode cX2_side 22 = .ok (.iaload, 1) := by decide +kernel
theorem dX2_side_23 : decode cX2_side 23 = .ok (.iand, 1) := by decide +kernel
theorem dX2_side_24 : decode cX2_side 24 = .ok (.ior, 1) := by decide +kernel
theorem dX2_side_25 : decode cX2_side 25 = .ok (.goto 4, 3) := by decide +kernel
theorem dX2_side_28 : decode cX2_side 28 = .ok (.iconst 0, 1) := by decide +kernel
theorem dX2_side_29 : decode cX2_side 29 = .ok (.ireturn, 1) := by decide +kernel
theorem dX3_init_0 : decode cX3_init 0 = .ok (.aload_n 0, 1) := by decide +kernel
theorem dX3_init_1 : decode cX3_init 1 = .ok (.invokespecial 3, 3) := by decide +kernel
theorem dX3_init_4 : decode cX3_init 4 = .ok (.aload_n 0, 1) := by decide +kernel
theorem dX3_init_5 : decode cX3_init 5 = .ok (.new 9, 3) := by decide +kernel
theorem dX3_init_8 : decode cX3_init 8 = .ok (.dup, 1) := by decide +kernel
theorem dX3_init_9 : decode cX3_init 9 = .ok (.invokespecial 11, 3) := by decide +kernel
theorem dX3_init_12 : decode cX3_init 12 = .ok (.putfield 12, 3) := by decide +kernel
theorem dX3_init_15 : decode cX3_init 15 = .ok (.aload_n 0, 1) := by decide +kernel
theorem dX3_init_16 : decode cX3_init 16 = .ok (.sipush 128, 3) := by decide +kernel
theorem dX3_init_19 : decode cX3_init 19 = .ok (.newarray .int, 2) := by decide +kernel
theorem dX3_init_21 : decode cX3_init 21 = .ok (.putfield 18, 3) := by decide +kernel
theorem dX3_init_24 : decode cX3_init 24 = .ok (.aload_n 0, 1) := by decide +kernel
theorem dX3_init_25 : decode cX3_init 25 = .ok (.sipush 128, 3) := by decide +kernel
theorem dX3_init_28 : decode cX3_init 28 = .ok (.newarray .int, 2) := by decide +kernel
theorem dX3_init_30 : decode cX3_init 30 = .ok (.putfield 22, 3) := by decide +kernel
theorem dX3_init_33 : decode cX3_init 33 = .ok (.aload_n 0, 1) := by decide +kernel
theorem dX3_init_34 : decode cX3_init 34 = .ok (.sipush 128, 3) := by decide +kernel
theorem dX3_init_37 : decode cX3_init 37 = .ok (.newarray .int, 2) := by decide +kernel
theorem dX3_init_39 : decode cX3_init 39 = .ok (.putfield 25, 3) := by decide +kernel
theorem dX3_init_42 : decode cX3_init 42 = .ok (.aload_n 0, 1) := by decide +kernel
theorem dX3_init_43 : decode cX3_init 43 = .ok (.sipush 128, 3) := by decide +kernel
theorem dX3_init_46 : decode cX3_init 46 = .ok (.newarray .int, 2) := by decide +kernel
theorem dX3_init_48 : decode cX3_init 48 = .ok (.putfield 28, 3) := by decide +kernel
theorem dX3_init_51 : decode cX3_init 51 = .ok (.aload_n 0, 1) := by decide +kernel
theorem dX3_init_52 : decode cX3_init 52 = .ok (.sipush 128, 3) := by decide +kernel
theorem dX3_init_55 : decode cX3_init 55 = .ok (.newarray .int, 2) := by decide +kernel
theorem dX3_init_57 : decode cX3_init 57 = .ok (.putfield 31, 3) := by decide +kernel
theorem dX3_init_60 : decode cX3_init 60 = .ok (.aload_n 0, 1) := by decide +kernel
theorem dX3_init_61 : decode cX3_init 61 = .ok (.sipush 128, 3) := by decide +kernel
theorem dX3_init_64 : decode cX3_init 64 = .ok (.newarray .int, 2) := by decide +kernel
theorem dX3_init_66 : decode cX3_init 66 = .ok (.putfield 34, 3) := by decide +kernel
theorem dX3_init_69 : decode cX3_init 69 = .ok (.aload_n 0, 1) := by decide +kernel
theorem dX3_init_70 : decode cX3_init 70 = .ok (.sipush 128, 3) := by decide +kernel
theorem dX3_init_73 : decode cX3_init 73 = .ok (.newarray .int, 2) := by decide +kernel
theorem dX3_init_75 : decode cX3_init 75 = .ok (.putfield 37, 3) := by decide +kernel
theorem dX3_init_78 : decode cX3_init 78 = .ok (.aload_n 0, 1) := by decide +kernel
theorem dX3_init_79 : decode cX3_init 79 = .ok (.sipush 128, 3) := by decide +kernel
theorem dX3_init_82 : decode cX3_init 82 = .ok (.newarray .int, 2) := by decide +kernel
theorem dX3_init_84 : decode cX3_init 84 = .ok (.putfield 40, 3) := by decide +kernel
theorem dX3_init_87 : decode cX3_init 87 = .ok (.aload_n 0, 1) := by decide +kernel
theorem dX3_init_88 : decode cX3_init 88 = .ok (.sipush 128, 3) := by decide +kernel
theorem dX3_init_91 : decode cX3_init 91 = .ok (.newarray .int, 2) := by decide +kernel
theorem dX3_init_93 : decode cX3_init 93 = .ok (.putfield 43, 3) := by decide +kernel
theorem dX3_init_96 : decode cX3_init 96 = .ok (.aload_n 0, 1) := by decide +kernel
theorem dX3_init_97 : decode cX3_init 97 = .ok (.sipush 256, 3) := by decide +kernel
theorem dX3_init_100 : decode cX3_init 100 = .ok (.newarray .int, 2) := by decide +kernel
theorem dX3_init_102 : decode cX3_init 102 = .ok (.putfield 46, 3) := by decide +kernel
theorem dX3_init_105 : decode cX3_init 105 = .ok (.aload_n 0, 1) := by decide +kernel
theorem dX3_init_106 : decode cX3_init 106 = .ok (.sipush 129, 3) := by decide +kernel
theorem dX3_init_109 : decode cX3_init 109 = .ok (.newarray .int, 2) := by decide +kernel
theorem dX3_init_111 : decode cX3_init 111 = .ok (.putfield 49, 3) := by decide +kernel
theorem dX3_init_114 : decode cX3_init 114 = .ok (.aload_n 0, 1) := by decide +kernel
theorem dX3_init_115 : decode cX3_init 115 = .ok (.bipush 16, 2) := by decide +kernel
theorem dX3_init_117 : decode cX3_init 117 = .ok (.newarray .int, 2) := by decide +kernel
theorem dX3_init_119 : decode cX3_init 119 = .ok (.putfield 52, 3) := by decide +kernel
theorem dX3_init_122 : decode cX3_init 122 = .ok (.return_, 1) := by decide +kernel
theorem dX3_build_0 : decode cX3_build 0 = .ok (.aload_n 0, 1) := by decide +kernel
theorem dX3_build_1 : decode cX3_build 1 = .ok (.getfield 12, 3) := by decide +kernel
theorem dX3_build_4 : decode cX3_build 4 = .ok (.aload_n 1, 1) := by decide +kernel
theorem dX3_build_5 : decode cX3_build 5 = .ok (.getfield 55, 3) := by decide +kernel
theorem dX3_build_8 : decode cX3_build 8 = .ok (.invokevirtual 58, 3) := by decide +kernel
theorem dX3_build_11 : decode cX3_build 11 = .ok (.aload_n 0, 1) := by decide +kernel
theorem dX3_build_12 : decode cX3_build 12 = .ok (.aload_n 1, 1) := by decide +kernel
theorem dX3_build_13 : decode cX3_build 13 = .ok (.getfield 62, 3) := by decide +kernel
theorem dX3_build_16 : decode cX3_build 16 = .ok (.putfield 66, 3) := by decide +kernel
theorem dX3_build_19 : decode cX3_build 19 = .ok (.aload_n 0, 1) := by decide +kernel
theorem dX3_build_20 : decode cX3_build 20 = .ok (.iconst 0, 1) := by decide +kernel
theorem dX3_build_21 : decode cX3_build 21 = .ok (.putfield 67, 3) := by decide +kernel
theorem dX3_build_24 : decode cX3_build 24 = .ok (.aload_n 0, 1) := by decide +kernel
theorem dX3_build_25 : decode cX3_build 25 = .ok (.iconst 0, 1) := by decide +kernel
theorem dX3_build_26 : decode cX3_build 26 = .ok (.invokevirtual 70, 3) := by decide +kernel
theorem dX3_build_29 : decode cX3_build 29 = .ok (.pop, 1) := by decide +kernel
theorem dX3_build_30 : decode cX3_build 30 = .ok (.aload_n 0, 1) := by decide +kernel
theorem dX3_build_31 : decode cX3_build 31 = .ok (.aload_n 1, 1) := by decide +kernel
theorem dX3_build_32 : decode cX3_build 32 = .ok (.invokevirtual 74, 3) := by decide +kernel
theorem dX3_build_35 : decode cX3_build 35 = .ok (.aload_n 0, 1) := by decide +kernel
theorem dX3_build_36 : decode cX3_build 36 = .ok (.invokevirtual 78, 3) := by decide +kernel
theorem dX3_build_39 : decode cX3_build 39 = .ok (.aload_n 0, 1) := by decide +kernel
theorem dX3_build_40 : decode cX3_build 40 = .ok (.invokevirtual 81, 3) := by decide +kernel
theorem dX3_build_43 : decode cX3_build 43 = .ok (.aload_n 0, 1) := by decide +kernel
theorem dX3_build_44 : decode cX3_build 44 = .ok (.invokevirtual 84, 3) := by decide +kernel
theorem dX3_build_47 : decode cX3_build 47 = .ok (.return_, 1) := by decide +kernel
theorem dX3_isNode_0 : decode cX3_isNode 0 = .ok (.iload_n 1, 1) := by decide +kernel
theorem dX3_isNode_1 : decode cX3_isNode 1 = .ok (.ifCond .lt 22, 3) := by decide +kernel
theorem dX3_isNode_4 : decode cX3_isNode 4 = .ok (.iload_n 1, 1) := by decide +kernel
theorem dX3_isNode_5 : decode cX3_isNode 5 = .ok (.aload_n 0, 1) := by decide +kernel
theorem dX3_isNode_6 : decode cX3_isNode 6 = .ok (.getfield 67, 3) := by decide +kernel
theorem dX3_isNode_9 : decode cX3_isNode 9 = .ok (.if_icmp .ge 14, 3) := by decide +kernel
theorem dX3_isNode_12 : decode cX3_isNode 12 = .ok (.iload_n 1, 1) := by decide +kernel
theorem dX3_isNode_13 : decode cX3_isNode 13 = .ok (.sipush 128, 3) := by decide +kernel
theorem dX3_isNode_16 : decode cX3_isNode 16 = .ok (.if_icmp .ge 7, 3) := by decide +kernel
theorem dX3_isNode_19 : decode cX3_isNode 19 = .ok (.iconst 1, 1) := by decide +kernel
theorem dX3_isNode_20 : decode cX3_isNode 20 = .ok (.goto 4, 3) := by decide +kernel
theorem dX3_isNode_23 : decode cX3_isNode 23 = .ok (.iconst 0, 1) := by decide +kernel
theorem dX3_isNode_24 : decode cX3_isNode 24 = .ok (.ireturn, 1) := by decide +kernel
theorem dX3_add_0 : decode cX3_add 0 = .ok (.aload_n 0, 1) := by decide +kernel
theorem dX3_add_1 : decode cX3_add 1 = .ok (.getfield 67, 3) := by decide +kernel
theorem dX3_add_4 : decode cX3_add 4 = .ok (.istore_n 2, 1) := by decide +kernel
theorem dX3_add_5 : decode cX3_add 5 = .ok (.iload_n 2, 1) := by decide +kernel
theorem dX3_add_6 : decode cX3_add 6 = .ok (.ifCond .lt 10, 3) := by decide +kernel
theorem dX3_add_9 : decode cX3_add 9 = .ok (.iload_n 2, 1) := by decide +kernel
theorem dX3_add_10 : decode cX3_add 10 = .ok (.sipush 128, 3) := by decide +kernel
theorem dX3_add_13 : decode cX3_add 13 = .ok (.if_icmp .lt 5, 3) := by decide +kernel
theorem dX3_add_16 : decode cX3_add 16 = .ok (.iconst (-1), 1) := by decide +kernel
theorem dX3_add_17 : decode cX3_add 17 = .ok (.ireturn, 1) := by decide +kernel
theorem dX3_add_18 : decode cX3_add 18 = .ok (.aload_n 0, 1) := by decide +kernel
theorem dX3_add_19 : decode cX3_add 19 = .ok (.getfield 18, 3) := by decide +kernel
theorem dX3_add_22 : decode cX3_add 22 = .ok (.iload_n 2, 1) := by decide +kernel
theorem dX3_add_23 : decode cX3_add 23 = .ok (.iload_n 1, 1) := by decide +kernel
theorem dX3_add_24 : decode cX3_add 24 = .ok (.iastore, 1) := by decide +kernel
theorem dX3_add_25 : decode cX3_add 25 = .ok (.aload_n 0, 1) := by decide +kernel
theorem dX3_add_26 : decode cX3_add 26 = .ok (.getfield 22, 3) := by decide +kernel
theorem dX3_add_29 : decode cX3_add 29 = .ok (.iload_n 2, 1) := by decide +kernel
theorem dX3_add_30 : decode cX3_add 30 = .ok (.iconst (-1), 1) := by decide +kernel
theorem dX3_add_31 : decode cX3_add 31 = .ok (.iastore, 1) := by decide +kernel
theorem dX3_add_32 : decode cX3_add 32 = .ok (.aload_n 0, 1) := by decide +kernel
theorem dX3_add_33 : decode cX3_add 33 = .ok (.getfield 25, 3) := by decide +kernel
theorem dX3_add_36 : decode cX3_add 36 = .ok (.iload_n 2, 1) := by decide +kernel
theorem dX3_add_37 : decode cX3_add 37 = .ok (.iconst (-1), 1) := by decide +kernel
theorem dX3_add_38 : decode cX3_add 38 = .ok (.iastore, 1) := by decide +kernel
theorem dX3_add_39 : decode cX3_add 39 = .ok (.aload_n 0, 1) := by decide +kernel
theorem dX3_add_40 : decode cX3_add 40 = .ok (.getfield 28, 3) := by decide +kernel
theorem dX3_add_43 : decode cX3_add 43 = .ok (.iload_n 2, 1) := by decide +kernel
theorem dX3_add_44 : decode cX3_add 44 = .ok (.iconst (-1), 1) := by decide +kernel
theorem dX3_add_45 : decode cX3_add 45 = .ok (.iastore, 1) := by decide +kernel
theorem dX3_add_46 : decode cX3_add 46 = .ok (.aload_n 0, 1) := by decide +kernel
theorem dX3_add_47 : decode cX3_add 47 = .ok (.getfield 31, 3) := by decide +kernel
theorem dX3_add_50 : decode cX3_add 50 = .ok (.iload_n 2, 1) := by decide +kernel
theorem dX3_add_51 : decode cX3_add 51 = .ok (.iconst (-1), 1) := by decide +kernel
theorem dX3_add_52 : decode cX3_add 52 = .ok (.iastore, 1) := by decide +kernel
theorem dX3_add_53 : decode cX3_add 53 = .ok (.aload_n 0, 1) := by decide +kernel
theorem dX3_add_54 : decode cX3_add 54 = .ok (.getfield 34, 3) := by decide +kernel
theorem dX3_add_57 : decode cX3_add 57 = .ok (.iload_n 2, 1) := by decide +kernel
theorem dX3_add_58 : decode cX3_add 58 = .ok (.iconst (-1), 1) := by decide +kernel
theorem dX3_add_59 : decode cX3_add 59 = .ok (.iastore, 1) := by decide +kernel
theorem dX3_add_60 : decode cX3_add 60 = .ok (.aload_n 0, 1) := by decide +kernel
theorem dX3_add_61 : decode cX3_add 61 = .ok (.getfield 37, 3) := by decide +kernel
theorem dX3_add_64 : decode cX3_add 64 = .ok (.iload_n 2, 1) := by decide +kernel
theorem dX3_add_65 : decode cX3_add 65 = .ok (.iconst (-1), 1) := by decide +kernel
theorem dX3_add_66 : decode cX3_add 66 = .ok (.iastore, 1) := by decide +kernel
theorem dX3_add_67 : decode cX3_add 67 = .ok (.aload_n 0, 1) := by decide +kernel
theorem dX3_add_68 : decode cX3_add 68 = .ok (.getfield 40, 3) := by decide +kernel
theorem dX3_add_71 : decode cX3_add 71 = .ok (.iload_n 2, 1) := by decide +kernel
theorem dX3_add_72 : decode cX3_add 72 = .ok (.iconst (-1), 1) := by decide +kernel
theorem dX3_add_73 : decode cX3_add 73 = .ok (.iastore, 1) := by decide +kernel
theorem dX3_add_74 : decode cX3_add 74 = .ok (.aload_n 0, 1) := by decide +kernel
theorem dX3_add_75 : decode cX3_add 75 = .ok (.getfield 43, 3) := by decide +kernel
theorem dX3_add_78 : decode cX3_add 78 = .ok (.iload_n 2, 1) := by decide +kernel
theorem dX3_add_79 : decode cX3_add 79 = .ok (.iconst (-1), 1) := by decide +kernel
theorem dX3_add_80 : decode cX3_add 80 = .ok (.iastore, 1) := by decide +kernel
theorem dX3_add_81 : decode cX3_add 81 = .ok (.aload_n 0, 1) := by decide +kernel
theorem dX3_add_82 : decode cX3_add 82 = .ok (.dup, 1) := by decide +kernel
theorem dX3_add_83 : decode cX3_add 83 = .ok (.getfield 67, 3) := by decide +kernel
theorem dX3_add_86 : decode cX3_add 86 = .ok (.iconst 1, 1) := by decide +kernel
theorem dX3_add_87 : decode cX3_add 87 = .ok (.iadd, 1) := by decide +kernel
theorem dX3_add_88 : decode cX3_add 88 = .ok (.putfield 67, 3) := by decide +kernel
theorem dX3_add_91 : decode cX3_add 91 = .ok (.iload_n 2, 1) := by decide +kernel
theorem dX3_add_92 : decode cX3_add 92 = .ok (.ireturn, 1) := by decide +kernel
theorem dX3_addReached_0 : decode cX3_addReached 0 = .ok (.aload_n 1, 1) := by decide +kernel
theorem dX3_addReached_1 : decode cX3_addReached 1 = .ok (.invokestatic 87, 3) := by decide +kernel
theorem dX3_addReached_4 : decode cX3_addReached 4 = .ok (.istore_n 2, 1) := by decide +kernel
theorem dX3_addReached_5 : decode cX3_addReached 5 = .ok (.aload_n 0, 1) := by decide +kernel
theorem dX3_addReached_6 : decode cX3_addReached 6 = .ok (.getfield 52, 3) := by decide +kernel
theorem dX3_addReached_9 : decode cX3_addReached 9 = .ok (.iconst (-1), 1) := by decide +kernel
theorem dX3_addReached_10 : decode cX3_addReached 10 = .ok (.invokestatic 91, 3) := by decide +kernel
theorem dX3_addReached_13 : decode cX3_addReached 13 = .ok (.iconst 0, 1) := by decide +kernel
theorem dX3_addReached_14 : decode cX3_addReached 14 = .ok (.istore_n 3, 1) := by decide +kernel
theorem dX3_addReached_15 : decode cX3_addReached 15 = .ok (.iload_n 3, 1) := by decide +kernel
theorem dX3_addReached_16 : decode cX3_addReached 16 = .ok (.aload_n 1, 1) := by decide +kernel
theorem dX3_addReached_17 : decode cX3_addReached 17 = .ok (.getfield 97, 3) := by decide +kernel
theorem dX3_addReached_20 : decode cX3_addReached 20 = .ok (.if_icmp .ge 101, 3) := by decide +kernel
theorem dX3_addReached_23 : decode cX3_addReached 23 = .ok (.iload_n 3, 1) := by decide +kernel
theorem dX3_addReached_24 : decode cX3_addReached 24 = .ok (.bipush 76, 2) := by decide +kernel
theorem dX3_addReached_26 : decode cX3_addReached 26 = .ok (.if_icmp .ge 95, 3) := by decide +kernel
theorem dX3_addReached_29 : decode cX3_addReached 29 = .ok (.aload_n 1, 1) := by decide +kernel
theorem dX3_addReached_30 : decode cX3_addReached 30 = .ok (.getfield 100, 3) := by decide +kernel
theorem dX3_addReached_33 : decode cX3_addReached 33 = .ok (.iload_n 3, 1) := by decide +kernel
theorem dX3_addReached_34 : decode cX3_addReached 34 = .ok (.iaload, 1) := by decide +kernel
theorem dX3_addReached_35 : decode cX3_addReached 35 = .ok (.istore 4, 2) := by decide +kernel
theorem dX3_addReached_37 : decode cX3_addReached 37 = .ok (.iload 4, 2) := by decide +kernel
theorem dX3_addReached_39 : decode cX3_addReached 39 = .ok (.ifCond .lt 76, 3) := by decide +kernel
theorem dX3_addReached_42 : decode cX3_addReached 42 = .ok (.iload 4, 2) := by decide +kernel
theorem dX3_addReached_44 : decode cX3_addReached 44 = .ok (.bipush 16, 2) := by decide +kernel
theorem dX3_addReached_46 : decode cX3_addReached 46 = .ok (.if_icmp .ge 69, 3) := by decide +kernel
theorem dX3_addReached_49 : decode cX3_addReached 49 = .ok (.iload_n 2, 1) := by decide +kernel
theorem dX3_addReached_50 : decode cX3_addReached 50 = .ok (.iload 4, 2) := by decide +kernel
theorem dX3_addReached_52 : decode cX3_addReached 52 = .ok (.iushr, 1) := by decide +kernel
theorem dX3_addReached_53 : decode cX3_addReached 53 = .ok (.iconst 1, 1) := by decide +kernel
theorem dX3_addReached_54 : decode cX3_addReached 54 = .ok (.iand, 1) := by decide +kernel
theorem dX3_addReached_55 : decode cX3_addReached 55 = .ok (.iconst 1, 1) := by decide +kernel
theorem dX3_addReached_56 : decode cX3_addReached 56 = .ok (.if_icmp .ne 59, 3) := by decide +kernel
theorem dX3_addReached_59 : decode cX3_addReached 59 = .ok (.aload_n 0, 1) := by decide +kernel
theorem dX3_addReached_60 : decode cX3_addReached 60 = .ok (.aload_n 1, 1) := by decide +kernel
theorem dX3_addReached_61 : decode cX3_addReached 61 = .ok (.getfield 101, 3) := by decide +kernel
theorem dX3_addReached_64 : decode cX3_addReached 64 = .ok (.iload_n 3, 1) := by decide +kernel
theorem dX3_addReached_65 : decode cX3_addReached 65 = .ok (.iaload, 1) := by decide +kernel
theorem dX3_addReached_66 : decode cX3_addReached 66 = .ok (.invokevirtual 70, 3) := by decide +kernel
theorem dX3_addReached_69 : decode cX3_addReached 69 = .ok (.istore 5, 2) := by decide +kernel
theorem dX3_addReached_71 : decode cX3_addReached 71 = .ok (.iload 5, 2) := by decide +kernel
theorem dX3_addReached_73 : decode cX3_addReached 73 = .ok (.iconst (-1), 1) := by decide +kernel
theorem dX3_addReached_74 : decode cX3_addReached 74 = .ok (.if_icmp .eq 41, 3) := by decide +kernel
theorem dX3_addReached_77 : decode cX3_addReached 77 = .ok (.aload_n 0, 1) := by decide +kernel
theorem dX3_addReached_78 : decode cX3_addReached 78 = .ok (.iload 5, 2) := by decide +kernel
theorem dX3_addReached_80 : decode cX3_addReached 80 = .ok (.aload_n 1, 1) := by decide +kernel
theorem dX3_addReached_81 : decode cX3_addReached 81 = .ok (.iload_n 3, 1) := by decide +kernel
theorem dX3_addReached_82 : decode cX3_addReached 82 = .ok (.invokevirtual 102, 3) := by decide +kernel
theorem dX3_addReached_85 : decode cX3_addReached 85 = .ok (.aload_n 0, 1) := by decide +kernel
theorem dX3_addReached_86 : decode cX3_addReached 86 = .ok (.getfield 52, 3) := by decide +kernel
theorem dX3_addReached_89 : decode cX3_addReached 89 = .ok (.iload 4, 2) := by decide +kernel
theorem dX3_addReached_91 : decode cX3_addReached 91 = .ok (.aload_n 0, 1) := by decide +kernel
theorem dX3_addReached_92 : decode cX3_addReached 92 = .ok (.getfield 52, 3) := by decide +kernel
theorem dX3_addReached_95 : decode cX3_addReached 95 = .ok (.iload 4, 2) := by decide +kernel
theorem dX3_addReached_97 : decode cX3_addReached 97 = .ok (.iaload, 1) := by decide +kernel
theorem dX3_addReached_98 : decode cX3_addReached 98 = .ok (.iconst (-1), 1) := by decide +kernel
theorem dX3_addReached_99 : decode cX3_addReached 99 = .ok (.if_icmp .ne 8, 3) := by decide +kernel
theorem dX3_addReached_102 : decode cX3_addReached 102 = .ok (.iload 5, 2) := by decide +kernel
theorem dX3_addReached_104 : decode cX3_addReached 104 = .ok (.goto 10, 3) := by decide +kernel
theorem dX3_addReached_107 : decode cX3_addReached 107 = .ok (.aload_n 0, 1) := by decide +kernel
theorem dX3_addReached_108 : decode cX3_addReached 108 = .ok (.getfield 52, 3) := by decide +kernel
theorem dX3_addReached_111 : decode cX3_addReached 111 = .ok (.iload 4, 2) := by decide +kernel
theorem dX3_addReached_113 : decode cX3_addReached 113 = .ok (.iaload, 1) := by decide +kernel
theorem dX3_addReached_114 : decode cX3_addReached 114 = .ok (.iastore, 1) := by decide +kernel
theorem dX3_addReached_115 : decode cX3_addReached 115 = .ok (.iinc 3 1, 3) := by decide +kernel
theorem dX3_addReached_118 : decode cX3_addReached 118 = .ok (.goto (-103), 3) := by decide +kernel
theorem dX3_addReached_121 : decode cX3_addReached 121 = .ok (.return_, 1) := by decide +kernel
theorem dX3_fill_0 : decode cX3_fill 0 = .ok (.aload_n 0, 1) := by decide +kernel
theorem dX3_fill_1 : decode cX3_fill 1 = .ok (.getfield 22, 3) := by decide +kernel
theorem dX3_fill_4 : decode cX3_fill 4 = .ok (.iload_n 1, 1) := by decide +kernel
theorem dX3_fill_5 : decode cX3_fill 5 = .ok (.aload_n 2, 1) := by decide +kernel
theorem dX3_fill_6 : decode cX3_fill 6 = .ok (.getfield 100, 3) := by decide +kernel
theorem dX3_fill_9 : decode cX3_fill 9 = .ok (.iload_n 3, 1) := by decide +kernel
theorem dX3_fill_10 : decode cX3_fill 10 = .ok (.iaload, 1) := by decide +kernel
theorem dX3_fill_11 : decode cX3_fill 11 = .ok (.iastore, 1) := by decide +kernel
theorem dX3_fill_12 : decode cX3_fill 12 = .ok (.aload_n 0, 1) := by decide +kernel
theorem dX3_fill_13 : decode cX3_fill 13 = .ok (.getfield 25, 3) := by decide +kernel
theorem dX3_fill_16 : decode cX3_fill 16 = .ok (.iload_n 1, 1) := by decide +kernel
theorem dX3_fill_17 : decode cX3_fill 17 = .ok (.aload_n 2, 1) := by decide +kernel
theorem dX3_fill_18 : decode cX3_fill 18 = .ok (.getfield 105, 3) := by decide +kernel
theorem dX3_fill_21 : decode cX3_fill 21 = .ok (.iload_n 3, 1) := by decide +kernel
theorem dX3_fill_22 : decode cX3_fill 22 = .ok (.iaload, 1) := by decide +kernel
theorem dX3_fill_23 : decode cX3_fill 23 = .ok (.iastore, 1) := by decide +kernel
theorem dX3_fill_24 : decode cX3_fill 24 = .ok (.aload_n 0, 1) := by decide +kernel
theorem dX3_fill_25 : decode cX3_fill 25 = .ok (.getfield 28, 3) := by decide +kernel
theorem dX3_fill_28 : decode cX3_fill 28 = .ok (.iload_n 1, 1) := by decide +kernel
theorem dX3_fill_29 : decode cX3_fill 29 = .ok (.aload_n 2, 1) := by decide +kernel
theorem dX3_fill_30 : decode cX3_fill 30 = .ok (.getfield 106, 3) := by decide +kernel
theorem dX3_fill_33 : decode cX3_fill 33 = .ok (.iload_n 3, 1) := by decide +kernel
theorem dX3_fill_34 : decode cX3_fill 34 = .ok (.iaload, 1) := by decide +kernel
theorem dX3_fill_35 : decode cX3_fill 35 = .ok (.iastore, 1) := by decide +kernel
theorem dX3_fill_36 : decode cX3_fill 36 = .ok (.aload_n 0, 1) := by decide +kernel
theorem dX3_fill_37 : decode cX3_fill 37 = .ok (.getfield 31, 3) := by decide +kernel
theorem dX3_fill_40 : decode cX3_fill 40 = .ok (.iload_n 1, 1) := by decide +kernel
theorem dX3_fill_41 : decode cX3_fill 41 = .ok (.aload_n 2, 1) := by decide +kernel
theorem dX3_fill_42 : decode cX3_fill 42 = .ok (.getfield 107, 3) := by decide +kernel
theorem dX3_fill_45 : decode cX3_fill 45 = .ok (.iload_n 3, 1) := by decide +kernel
theorem dX3_fill_46 : decode cX3_fill 46 = .ok (.iaload, 1) := by decide +kernel
theorem dX3_fill_47 : decode cX3_fill 47 = .ok (.iastore, 1) := by decide +kernel
theorem dX3_fill_48 : decode cX3_fill 48 = .ok (.aload_n 0, 1) := by decide +kernel
theorem dX3_fill_49 : decode cX3_fill 49 = .ok (.getfield 34, 3) := by decide +kernel
theorem dX3_fill_52 : decode cX3_fill 52 = .ok (.iload_n 1, 1) := by decide +kernel
theorem dX3_fill_53 : decode cX3_fill 53 = .ok (.aload_n 2, 1) := by decide +kernel
theorem dX3_fill_54 : decode cX3_fill 54 = .ok (.getfield 108, 3) := by decide +kernel
theorem dX3_fill_57 : decode cX3_fill 57 = .ok (.iload_n 3, 1) := by decide +kernel
theorem dX3_fill_58 : decode cX3_fill 58 = .ok (.iaload, 1) := by decide +kernel
theorem dX3_fill_59 : decode cX3_fill 59 = .ok (.iastore, 1) := by decide +kernel
theorem dX3_fill_60 : decode cX3_fill 60 = .ok (.aload_n 0, 1) := by decide +kernel
theorem dX3_fill_61 : decode cX3_fill 61 = .ok (.getfield 37, 3) := by decide +kernel
theorem dX3_fill_64 : decode cX3_fill 64 = .ok (.iload_n 1, 1) := by decide +kernel
theorem dX3_fill_65 : decode cX3_fill 65 = .ok (.aload_n 2, 1) := by decide +kernel
theorem dX3_fill_66 : decode cX3_fill 66 = .ok (.getfield 109, 3) := by decide +kernel
theorem dX3_fill_69 : decode cX3_fill 69 = .ok (.iload_n 3, 1) := by decide +kernel
theorem dX3_fill_70 : decode cX3_fill 70 = .ok (.iaload, 1) := by decide +kernel
theorem dX3_fill_71 : decode cX3_fill 71 = .ok (.iastore, 1) := by decide +kernel
theorem dX3_fill_72 : decode cX3_fill 72 = .ok (.return_, 1) := by decide +kernel
theorem dX3_reachedBlocks_0 : decode cX3_reachedBlocks 0 = .ok (.iconst 1, 1) := by decide +kernel
theorem dX3_reachedBlocks_1 : decode cX3_reachedBlocks 1 = .ok (.istore_n 1, 1) := by decide +kernel
theorem dX3_reachedBlocks_2 : decode cX3_reachedBlocks 2 = .ok (.iconst 0, 1) := by decide +kernel
theorem dX3_reachedBlocks_3 : decode cX3_reachedBlocks 3 = .ok (.istore_n 2, 1) := by decide +kernel
theorem dX3_reachedBlocks_4 : decode cX3_reachedBlocks 4 = .ok (.iload_n 2, 1) := by decide +kernel
theorem dX3_reachedBlocks_5 : decode cX3_reachedBlocks 5 = .ok (.bipush 16, 2) := by decide +kernel
theorem dX3_reachedBlocks_7 : decode cX3_reachedBlocks 7 = .ok (.if_icmp .ge 67, 3) := by decide +kernel
theorem dX3_reachedBlocks_10 : decode cX3_reachedBlocks 10 = .ok (.iconst 0, 1) := by decide +kernel
theorem dX3_reachedBlocks_11 : decode cX3_reachedBlocks 11 = .ok (.istore_n 3, 1) := by decide +kernel
theorem dX3_reachedBlocks_12 : decode cX3_reachedBlocks 12 = .ok (.iload_n 3, 1) := by decide +kernel
theorem dX3_reachedBlocks_13 : decode cX3_reachedBlocks 13 = .ok (.aload_n 0, 1) := by decide +kernel
theorem dX3_reachedBlocks_14 : decode cX3_reachedBlocks 14 = .ok (.getfield 97, 3) := by decide +kernel
theorem dX3_reachedBlocks_17 : decode cX3_reachedBlocks 17 = .ok (.if_icmp .ge 51, 3) := by decide +kernel
theorem dX3_reachedBlocks_20 : decode cX3_reachedBlocks 20 = .ok (.iload_n 3, 1) := by decide +kernel
theorem dX3_reachedBlocks_21 : decode cX3_reachedBlocks 21 = .ok (.bipush 76, 2) := by decide +kernel
theorem dX3_reachedBlocks_23 : decode cX3_reachedBlocks 23 = .ok (.if_icmp .ge 45, 3) := by decide +kernel
theorem dX3_reachedBlocks_26 : decode cX3_reachedBlocks 26 = .ok (.iload_n 1, 1) := by decide +kernel
theorem dX3_reachedBlocks_27 : decode cX3_reachedBlocks 27 = .ok (.aload_n 0, 1) := by decide +kernel
theorem dX3_reachedBlocks_28 : decode cX3_reachedBlocks 28 = .ok (.getfield 100, 3) := by decide +kernel
theorem dX3_reachedBlocks_31 : decode cX3_reachedBlocks 31 = .ok (.iload_n 3, 1) := by decide +kernel
theorem dX3_reachedBlocks_32 : decode cX3_reachedBlocks 32 = .ok (.iaload, 1) := by decide +kernel
theorem dX3_reachedBlocks_33 : decode cX3_reachedBlocks 33 = .ok (.iushr, 1) := by decide +kernel
theorem dX3_reachedBlocks_34 : decode cX3_reachedBlocks 34 = .ok (.iconst 1, 1) := by decide +kernel
theorem dX3_reachedBlocks_35 : decode cX3_reachedBlocks 35 = .ok (.iand, 1) := by decide +kernel
theorem dX3_reachedBlocks_36 : decode cX3_reachedBlocks 36 = .ok (.iconst 1, 1) := by decide +kernel
theorem dX3_reachedBlocks_37 : decode cX3_reachedBlocks 37 = .ok (.if_icmp .ne 25, 3) := by decide +kernel
theorem dX3_reachedBlocks_40 : decode cX3_reachedBlocks 40 = .ok (.iload_n 1, 1) := by decide +kernel
theorem dX3_reachedBlocks_41 : decode cX3_reachedBlocks 41 = .ok (.aload_n 0, 1) := by decide +kernel
theorem dX3_reachedBlocks_42 : decode cX3_reachedBlocks 42 = .ok (.getfield 108, 3) := by decide +kernel
theorem dX3_reachedBlocks_45 : decode cX3_reachedBlocks 45 = .ok (.iload_n 3, 1) := by decide +kernel
theorem dX3_reachedBlocks_46 : decode cX3_reachedBlocks 46 = .ok (.iaload, 1) := by decide +kernel
theorem dX3_reachedBlocks_47 : decode cX3_reachedBlocks 47 = .ok (.invokestatic 110, 3) := by decide +kernel
theorem dX3_reachedBlocks_50 : decode cX3_reachedBlocks 50 = .ok (.aload_n 0, 1) := by decide +kernel
theorem dX3_reachedBlocks_51 : decode cX3_reachedBlocks 51 = .ok (.getfield 109, 3) := by decide +kernel
theorem dX3_reachedBlocks_54 : decode cX3_reachedBlocks 54 = .ok (.iload_n 3, 1) := by decide +kernel
theorem dX3_reachedBlocks_55 : decode cX3_reachedBlocks 55 = .ok (.iaload, 1) := by decide +kernel
theorem dX3_reachedBlocks_56 : decode cX3_reachedBlocks 56 = .ok (.invokestatic 110, 3) := by decide +kernel
theorem dX3_reachedBlocks_59 : decode cX3_reachedBlocks 59 = .ok (.ior, 1) := by decide +kernel
theorem dX3_reachedBlocks_60 : decode cX3_reachedBlocks 60 = .ok (.ior, 1) := by decide +kernel
theorem dX3_reachedBlocks_61 : decode cX3_reachedBlocks 61 = .ok (.istore_n 1, 1) := by decide +kernel
theorem dX3_reachedBlocks_62 : decode cX3_reachedBlocks 62 = .ok (.iinc 3 1, 3) := by decide +kernel
theorem dX3_reachedBlocks_65 : decode cX3_reachedBlocks 65 = .ok (.goto (-53), 3) := by decide +kernel
theorem dX3_reachedBlocks_68 : decode cX3_reachedBlocks 68 = .ok (.iinc 2 1, 3) := by decide +kernel
theorem dX3_reachedBlocks_71 : decode cX3_reachedBlocks 71 = .ok (.goto (-67), 3) := by decide +kernel
theorem dX3_reachedBlocks_74 : decode cX3_reachedBlocks 74 = .ok (.iload_n 1, 1) := by decide +kernel
theorem dX3_reachedBlocks_75 : decode cX3_reachedBlocks 75 = .ok (.ireturn, 1) := by decide +kernel
theorem dX3_blockBit_0 : decode cX3_blockBit 0 = .ok (.iload_n 0, 1) := by decide +kernel
theorem dX3_blockBit_1 : decode cX3_blockBit 1 = .ok (.ifCond .lt 15, 3) := by decide +kernel
theorem dX3_blockBit_4 : decode cX3_blockBit 4 = .ok (.iload_n 0, 1) := by decide +kernel
theorem dX3_blockBit_5 : decode cX3_blockBit 5 = .ok (.bipush 16, 2) := by decide +kernel
theorem dX3_blockBit_7 : decode cX3_blockBit 7 = .ok (.if_icmp .ge 9, 3) := by decide +kernel
theorem dX3_blockBit_10 : decode cX3_blockBit 10 = .ok (.iconst 1, 1) := by decide +kernel
theorem dX3_blockBit_11 : decode cX3_blockBit 11 = .ok (.iload_n 0, 1) := by decide +kernel
theorem dX3_blockBit_12 : decode cX3_blockBit 12 = .ok (.ishl, 1) := by decide +kernel
theorem dX3_blockBit_13 : decode cX3_blockBit 13 = .ok (.goto 4, 3) := by decide +kernel
theorem dX3_blockBit_16 : decode cX3_blockBit 16 = .ok (.iconst 0, 1) := by decide +kernel
theorem dX3_blockBit_17 : decode cX3_blockBit 17 = .ok (.ireturn, 1) := by decide +kernel
theorem dX3_joinNodes_0 : decode cX3_joinNodes 0 = .ok (.iconst 0, 1) := by decide +kernel
theorem dX3_joinNodes_1 : decode cX3_joinNodes 1 = .ok (.istore_n 1, 1) := by decide +kernel
theorem dX3_joinNodes_2 : decode cX3_joinNodes 2 = .ok (.iload_n 1, 1) := by decide +kernel
theorem dX3_joinNodes_3 : decode cX3_joinNodes 3 = .ok (.aload_n 0, 1) := by decide +kernel
theorem dX3_joinNodes_4 : decode cX3_joinNodes 4 = .ok (.getfield 67, 3) := by decide +kernel
theorem dX3_joinNodes_7 : decode cX3_joinNodes 7 = .ok (.if_icmp .ge 96, 3) := by decide +kernel
theorem dX3_joinNodes_10 : decode cX3_joinNodes 10 = .ok (.aload_n 0, 1) := by decide +kernel
theorem dX3_joinNodes_11 : decode cX3_joinNodes 11 = .ok (.getfield 18, 3) := by decide +kernel
theorem dX3_joinNodes_14 : decode cX3_joinNodes 14 = .ok (.iload_n 1, 1) := by decide +kernel
theorem dX3_joinNodes_15 : decode cX3_joinNodes 15 = .ok (.iaload, 1) := by decide +kernel
theorem dX3_joinNodes_16 : decode cX3_joinNodes 16 = .ok (.iconst 4, 1) := by decide +kernel
theorem dX3_joinNodes_17 : decode cX3_joinNodes 17 = .ok (.if_icmp .ge 29, 3) := by decide +kernel
theorem dX3_joinNodes_20 : decode cX3_joinNodes 20 = .ok (.aload_n 0, 1) := by decide +kernel
theorem dX3_joinNodes_21 : decode cX3_joinNodes 21 = .ok (.getfield 40, 3) := by decide +kernel
theorem dX3_joinNodes_24 : decode cX3_joinNodes 24 = .ok (.iload_n 1, 1) := by decide +kernel
theorem dX3_joinNodes_25 : decode cX3_joinNodes 25 = .ok (.iload_n 1, 1) := by decide +kernel
theorem dX3_joinNodes_26 : decode cX3_joinNodes 26 = .ok (.iconst 1, 1) := by decide +kernel
theorem dX3_joinNodes_27 : decode cX3_joinNodes 27 = .ok (.iadd, 1) := by decide +kernel
theorem dX3_joinNodes_28 : decode cX3_joinNodes 28 = .ok (.aload_n 0, 1) := by decide +kernel
theorem dX3_joinNodes_29 : decode cX3_joinNodes 29 = .ok (.getfield 67, 3) := by decide +kernel
theorem dX3_joinNodes_32 : decode cX3_joinNodes 32 = .ok (.if_icmp .ge 9, 3) := by decide +kernel
theorem dX3_joinNodes_35 : decode cX3_joinNodes 35 = .ok (.iload_n 1, 1) := by decide +kernel
theorem dX3_joinNodes_36 : decode cX3_joinNodes 36 = .ok (.iconst 1, 1) := by decide +kernel
theorem dX3_joinNodes_37 : decode cX3_joinNodes 37 = .ok (.iadd, 1) := by decide +kernel
theorem dX3_joinNodes_38 : decode cX3_joinNodes 38 = .ok (.goto 4, 3) := by decide +kernel
theorem dX3_joinNodes_41 : decode cX3_joinNodes 41 = .ok (.iconst (-1), 1) := by decide +kernel
theorem dX3_joinNodes_42 : decode cX3_joinNodes 42 = .ok (.iastore, 1) := by decide +kernel
theorem dX3_joinNodes_43 : decode cX3_joinNodes 43 = .ok (.goto 54, 3) := by decide +kernel
theorem dX3_joinNodes_46 : decode cX3_joinNodes 46 = .ok (.aload_n 0, 1) := by decide +kernel
theorem dX3_joinNodes_47 : decode cX3_joinNodes 47 = .ok (.getfield 40, 3) := by decide +kernel
theorem dX3_joinNodes_50 : decode cX3_joinNodes 50 = .ok (.iload_n 1, 1) := by decide +kernel
theorem dX3_joinNodes_51 : decode cX3_joinNodes 51 = .ok (.aload_n 0, 1) := by decide +kernel
theorem dX3_joinNodes_52 : decode cX3_joinNodes 52 = .ok (.aload_n 0, 1) := by decide +kernel
theorem dX3_joinNodes_53 : decode cX3_joinNodes 53 = .ok (.getfield 34, 3) := by decide +kernel
theorem dX3_joinNodes_56 : decode cX3_joinNodes 56 = .ok (.iload_n 1, 1) := by decide +kernel
theorem dX3_joinNodes_57 : decode cX3_joinNodes 57 = .ok (.iaload, 1) := by decide +kernel
theorem dX3_joinNodes_58 : decode cX3_joinNodes 58 = .ok (.invokevirtual 113, 3) := by decide +kernel
theorem dX3_joinNodes_61 : decode cX3_joinNodes 61 = .ok (.iastore, 1) := by decide +kernel
theorem dX3_joinNodes_62 : decode cX3_joinNodes 62 = .ok (.aload_n 0, 1) := by decide +kernel
theorem dX3_joinNodes_63 : decode cX3_joinNodes 63 = .ok (.getfield 43, 3) := by decide +kernel
theorem dX3_joinNodes_66 : decode cX3_joinNodes 66 = .ok (.iload_n 1, 1) := by decide +kernel
theorem dX3_joinNodes_67 : decode cX3_joinNodes 67 = .ok (.aload_n 0, 1) := by decide +kernel
theorem dX3_joinNodes_68 : decode cX3_joinNodes 68 = .ok (.getfield 37, 3) := by decide +kernel
theorem dX3_joinNodes_71 : decode cX3_joinNodes 71 = .ok (.iload_n 1, 1) := by decide +kernel
theorem dX3_joinNodes_72 : decode cX3_joinNodes 72 = .ok (.iaload, 1) := by decide +kernel
theorem dX3_joinNodes_73 : decode cX3_joinNodes 73 = .ok (.aload_n 0, 1) := by decide +kernel
theorem dX3_joinNodes_74 : decode cX3_joinNodes 74 = .ok (.getfield 34, 3) := by decide +kernel
theorem dX3_joinNodes_77 : decode cX3_joinNodes 77 = .ok (.iload_n 1, 1) := by decide +kernel
theorem dX3_joinNodes_78 : decode cX3_joinNodes 78 = .ok (.iaload, 1) := by decide +kernel
theorem dX3_joinNodes_79 : decode cX3_joinNodes 79 = .ok (.if_icmp .ne 7, 3) := by decide +kernel
theorem dX3_joinNodes_82 : decode cX3_joinNodes 82 = .ok (.iconst (-1), 1) := by decide +kernel
theorem dX3_joinNodes_83 : decode cX3_joinNodes 83 = .ok (.goto 13, 3) := by decide +kernel
theorem dX3_joinNodes_86 : decode cX3_joinNodes 86 = .ok (.aload_n 0, 1) := by decide +kernel
theorem dX3_joinNodes_87 : decode cX3_joinNodes 87 = .ok (.aload_n 0, 1) := by decide +kernel
theorem dX3_joinNodes_88 : decode cX3_joinNodes 88 = .ok (.getfield 37, 3) := by decide +kernel
theorem dX3_joinNodes_91 : decode cX3_joinNodes 91 = .ok (.iload_n 1, 1) := by decide +kernel
theorem dX3_joinNodes_92 : decode cX3_joinNodes 92 = .ok (.iaload, 1) := by decide +kernel
theorem dX3_joinNodes_93 : decode cX3_joinNodes 93 = .ok (.invokevirtual 113, 3) := by decide +kernel
theorem dX3_joinNodes_96 : decode cX3_joinNodes 96 = .ok (.iastore, 1) := by decide +kernel
theorem dX3_joinNodes_97 : decode cX3_joinNodes 97 = .ok (.iinc 1 1, 3) := by decide +kernel
theorem dX3_joinNodes_100 : decode cX3_joinNodes 100 = .ok (.goto (-98), 3) := by decide +kernel
theorem dX3_joinNodes_103 : decode cX3_joinNodes 103 = .ok (.return_, 1) := by decide +kernel
theorem dX3_startOf_0 : decode cX3_startOf 0 = .ok (.iload_n 1, 1) := by decide +kernel
theorem dX3_startOf_1 : decode cX3_startOf 1 = .ok (.ifCond .lt 18, 3) := by decide +kernel
theorem dX3_startOf_4 : decode cX3_startOf 4 = .ok (.iload_n 1, 1) := by decide +kernel
theorem dX3_startOf_5 : decode cX3_startOf 5 = .ok (.bipush 16, 2) := by decide +kernel
theorem dX3_startOf_7 : decode cX3_startOf 7 = .ok (.if_icmp .ge 12, 3) := by decide +kernel
theorem dX3_startOf_10 : decode cX3_startOf 10 = .ok (.aload_n 0, 1) := by decide +kernel
theorem dX3_startOf_11 : decode cX3_startOf 11 = .ok (.getfield 52, 3) := by decide +kernel
theorem dX3_startOf_14 : decode cX3_startOf 14 = .ok (.iload_n 1, 1) := by decide +kernel
theorem dX3_startOf_15 : decode cX3_startOf 15 = .ok (.iaload, 1) := by decide +kernel
theorem dX3_startOf_16 : decode cX3_startOf 16 = .ok (.goto 4, 3) := by decide +kernel
theorem dX3_startOf_19 : decode cX3_startOf 19 = .ok (.iconst (-1), 1) := by decide +kernel
theorem dX3_startOf_20 : decode cX3_startOf 20 = .ok (.ireturn, 1) := by decide +kernel
theorem dX3_splitEdges_0 : decode cX3_splitEdges 0 = .ok (.aload_n 0, 1) := by decide +kernel
theorem dX3_splitEdges_1 : decode cX3_splitEdges 1 = .ok (.getfield 67, 3) := by decide +kernel
theorem dX3_splitEdges_4 : decode cX3_splitEdges 4 = .ok (.istore_n 1, 1) := by decide +kernel
theorem dX3_splitEdges_5 : decode cX3_splitEdges 5 = .ok (.iconst 0, 1) := by decide +kernel
theorem dX3_splitEdges_6 : decode cX3_splitEdges 6 = .ok (.istore_n 2, 1) := by decide +kernel
theorem dX3_splitEdges_7 : decode cX3_splitEdges 7 = .ok (.iload_n 2, 1) := by decide +kernel
theorem dX3_splitEdges_8 : decode cX3_splitEdges 8 = .ok (.iload_n 1, 1) := by decide +kernel
theorem dX3_splitEdges_9 : decode cX3_splitEdges 9 = .ok (.if_icmp .ge 50, 3) := by decide +kernel
theorem dX3_splitEdges_12 : decode cX3_splitEdges 12 = .ok (.aload_n 0, 1) := by decide +kernel
theorem dX3_splitEdges_13 : decode cX3_splitEdges 13 = .ok (.iload_n 2, 1) := by decide +kernel
theorem dX3_splitEdges_14 : decode cX3_splitEdges 14 = .ok (.invokevirtual 116, 3) := by decide +kernel
theorem dX3_splitEdges_17 : decode cX3_splitEdges 17 = .ok (.iconst 2, 1) := by decide +kernel
theorem dX3_splitEdges_18 : decode cX3_splitEdges 18 = .ok (.if_icmp .ne 35, 3) := by decide +kernel
theorem dX3_splitEdges_21 : decode cX3_splitEdges 21 = .ok (.aload_n 0, 1) := by decide +kernel
theorem dX3_splitEdges_22 : decode cX3_splitEdges 22 = .ok (.getfield 40, 3) := by decide +kernel
theorem dX3_splitEdges_25 : decode cX3_splitEdges 25 = .ok (.iload_n 2, 1) := by decide +kernel
theorem dX3_splitEdges_26 : decode cX3_splitEdges 26 = .ok (.aload_n 0, 1) := by decide +kernel
theorem dX3_splitEdges_27 : decode cX3_splitEdges 27 = .ok (.aload_n 0, 1) := by decide +kernel
theorem dX3_splitEdges_28 : decode cX3_splitEdges 28 = .ok (.getfield 40, 3) := by decide +kernel
theorem dX3_splitEdges_31 : decode cX3_splitEdges 31 = .ok (.iload_n 2, 1) := by decide +kernel
theorem dX3_splitEdges_32 : decode cX3_splitEdges 32 = .ok (.iaload, 1) := by decide +kernel
theorem dX3_splitEdges_33 : decode cX3_splitEdges 33 = .ok (.invokevirtual 119, 3) := by decide +kernel
theorem dX3_splitEdges_36 : decode cX3_splitEdges 36 = .ok (.iastore, 1) := by decide +kernel
theorem dX3_splitEdges_37 : decode cX3_splitEdges 37 = .ok (.aload_n 0, 1) := by decide +kernel
theorem dX3_splitEdges_38 : decode cX3_splitEdges 38 = .ok (.getfield 43, 3) := by decide +kernel
theorem dX3_splitEdges_41 : decode cX3_splitEdges 41 = .ok (.iload_n 2, 1) := by decide +kernel
theorem dX3_splitEdges_42 : decode cX3_splitEdges 42 = .ok (.aload_n 0, 1) := by decide +kernel
theorem dX3_splitEdges_43 : decode cX3_splitEdges 43 = .ok (.aload_n 0, 1) := by decide +kernel
theorem dX3_splitEdges_44 : decode cX3_splitEdges 44 = .ok (.getfield 43, 3) := by decide +kernel
theorem dX3_splitEdges_47 : decode cX3_splitEdges 47 = .ok (.iload_n 2, 1) := by decide +kernel
theorem dX3_splitEdges_48 : decode cX3_splitEdges 48 = .ok (.iaload, 1) := by decide +kernel
theorem dX3_splitEdges_49 : decode cX3_splitEdges 49 = .ok (.invokevirtual 119, 3) := by decide +kernel
theorem dX3_splitEdges_52 : decode cX3_splitEdges 52 = .ok (.iastore, 1) := by decide +kernel
theorem dX3_splitEdges_53 : decode cX3_splitEdges 53 = .ok (.iinc 2 1, 3) := by decide +kernel
theorem dX3_splitEdges_56 : decode cX3_splitEdges 56 = .ok (.goto (-49), 3) := by decide +kernel
theorem dX3_splitEdges_59 : decode cX3_splitEdges 59 = .ok (.return_, 1) := by decide +kernel
theorem dX3_splitIfOthersCome_0 : decode cX3_splitIfOthersCome 0 = .ok (.aload_n 0, 1) := by decide +kernel
theorem dX3_splitIfOthersCome_1 : decode cX3_splitIfOthersCome 1 = .ok (.iload_n 1, 1) := by decide +kernel
theorem dX3_splitIfOthersCome_2 : decode cX3_splitIfOthersCome 2 = .ok (.invokevirtual 122, 3) := by decide +kernel
theorem dX3_splitIfOthersCome_5 : decode cX3_splitIfOthersCome 5 = .ok (.iconst 2, 1) := by decide +kernel
theorem dX3_splitIfOthersCome_6 : decode cX3_splitIfOthersCome 6 = .ok (.if_icmp .ge 5, 3) := by decide +kernel
theorem dX3_splitIfOthersCome_9 : decode cX3_splitIfOthersCome 9 = .ok (.iload_n 1, 1) := by decide +kernel
theorem dX3_splitIfOthersCome_10 : decode cX3_splitIfOthersCome 10 = .ok (.ireturn, 1) := by decide +kernel
theorem dX3_splitIfOthersCome_11 : decode cX3_splitIfOthersCome 11 = .ok (.aload_n 0, 1) := by decide +kernel
theorem dX3_splitIfOthersCome_12 : decode cX3_splitIfOthersCome 12 = .ok (.iconst 0, 1) := by decide +kernel
theorem dX3_splitIfOthersCome_13 : decode cX3_splitIfOthersCome 13 = .ok (.invokevirtual 70, 3) := by decide +kernel
theorem dX3_splitIfOthersCome_16 : decode cX3_splitIfOthersCome 16 = .ok (.istore_n 2, 1) := by decide +kernel
theorem dX3_splitIfOthersCome_17 : decode cX3_splitIfOthersCome 17 = .ok (.iload_n 2, 1) := by decide +kernel
theorem dX3_splitIfOthersCome_18 : decode cX3_splitIfOthersCome 18 = .ok (.iconst (-1), 1) := by decide +kernel
theorem dX3_splitIfOthersCome_19 : decode cX3_splitIfOthersCome 19 = .ok (.if_icmp .ne 5, 3) := by decide +kernel
theorem dX3_splitIfOthersCome_22 : decode cX3_splitIfOthersCome 22 = .ok (.iload_n 1, 1) := by decide +kernel
theorem dX3_splitIfOthersCome_23 : decode cX3_splitIfOthersCome 23 = .ok (.ireturn, 1) := by decide +kernel
theorem dX3_splitIfOthersCome_24 : decode cX3_splitIfOthersCome 24 = .ok (.aload_n 0, 1) := by decide +kernel
theorem dX3_splitIfOthersCome_25 : decode cX3_splitIfOthersCome 25 = .ok (.getfield 40, 3) := by decide +kernel
theorem dX3_splitIfOthersCome_28 : decode cX3_splitIfOthersCome 28 = .ok (.iload_n 2, 1) := by decide +kernel
theorem dX3_splitIfOthersCome_29 : decode cX3_splitIfOthersCome 29 = .ok (.iload_n 1, 1) := by decide +kernel
theorem dX3_splitIfOthersCome_30 : decode cX3_splitIfOthersCome 30 = .ok (.iastore, 1) := by decide +kernel
theorem dX3_splitIfOthersCome_31 : decode cX3_splitIfOthersCome 31 = .ok (.iload_n 2, 1) := by decide +kernel
theorem dX3_splitIfOthersCome_32 : decode cX3_splitIfOthersCome 32 = .ok (.ireturn, 1) := by decide +kernel
theorem dX3_comingTo_0 : decode cX3_comingTo 0 = .ok (.iconst 0, 1) := by decide +kernel
theorem dX3_comingTo_1 : decode cX3_comingTo 1 = .ok (.istore_n 2, 1) := by decide +kernel
theorem dX3_comingTo_2 : decode cX3_comingTo 2 = .ok (.iconst 0, 1) := by decide +kernel
theorem dX3_comingTo_3 : decode cX3_comingTo 3 = .ok (.istore_n 3, 1) := by decide +kernel
theorem dX3_comingTo_4 : decode cX3_comingTo 4 = .ok (.iload_n 3, 1) := by decide +kernel
theorem dX3_comingTo_5 : decode cX3_comingTo 5 = .ok (.aload_n 0, 1) := by decide +kernel
theorem dX3_comingTo_6 : decode cX3_comingTo 6 = .ok (.getfield 67, 3) := by decide +kernel
theorem dX3_comingTo_9 : decode cX3_comingTo 9 = .ok (.if_icmp .ge 40, 3) := by decide +kernel
theorem dX3_comingTo_12 : decode cX3_comingTo 12 = .ok (.iload_n 2, 1) := by decide +kernel
theorem dX3_comingTo_13 : decode cX3_comingTo 13 = .ok (.aload_n 0, 1) := by decide +kernel
theorem dX3_comingTo_14 : decode cX3_comingTo 14 = .ok (.getfield 40, 3) := by decide +kernel
theorem dX3_comingTo_17 : decode cX3_comingTo 17 = .ok (.iload_n 3, 1) := by decide +kernel
theorem dX3_comingTo_18 : decode cX3_comingTo 18 = .ok (.iaload, 1) := by decide +kernel
theorem dX3_comingTo_19 : decode cX3_comingTo 19 = .ok (.iload_n 1, 1) := by decide +kernel
theorem dX3_comingTo_20 : decode cX3_comingTo 20 = .ok (.if_icmp .eq 13, 3) := by decide +kernel
theorem dX3_comingTo_23 : decode cX3_comingTo 23 = .ok (.aload_n 0, 1) := by decide +kernel
theorem dX3_comingTo_24 : decode cX3_comingTo 24 = .ok (.getfield 43, 3) := by decide +kernel
theorem dX3_comingTo_27 : decode cX3_comingTo 27 = .ok (.iload_n 3, 1) := by decide +kernel
theorem dX3_comingTo_28 : decode cX3_comingTo 28 = .ok (.iaload, 1) := by decide +kernel
theorem dX3_comingTo_29 : decode cX3_comingTo 29 = .ok (.iload_n 1, 1) := by decide +kernel
theorem dX3_comingTo_30 : decode cX3_comingTo 30 = .ok (.if_icmp .ne 7, 3) := by decide +kernel
theorem dX3_comingTo_33 : decode cX3_comingTo 33 = .ok (.iconst 1, 1) := by decide +kernel
theorem dX3_comingTo_34 : decode cX3_comingTo 34 = .ok (.goto 4, 3) := by decide +kernel
theorem dX3_comingTo_37 : decode cX3_comingTo 37 = .ok (.iconst 0, 1) := by decide +kernel
theorem dX3_comingTo_38 : decode cX3_comingTo 38 = .ok (.invokestatic 125, 3) := by decide +kernel
theorem dX3_comingTo_41 : decode cX3_comingTo 41 = .ok (.iadd, 1) := by decide +kernel
theorem dX3_comingTo_42 : decode cX3_comingTo 42 = .ok (.istore_n 2, 1) := by decide +kernel
theorem dX3_comingTo_43 : decode cX3_comingTo 43 = .ok (.iinc 3 1, 3) := by decide +kernel
theorem dX3_comingTo_46 : decode cX3_comingTo 46 = .ok (.goto (-42), 3) := by decide +kernel
theorem dX3_comingTo_49 : decode cX3_comingTo 49 = .ok (.iload_n 2, 1) := by decide +kernel
theorem dX3_comingTo_50 : decode cX3_comingTo 50 = .ok (.ireturn, 1) := by decide +kernel
theorem dX3_listFrom_0 : decode cX3_listFrom 0 = .ok (.iconst 0, 1) := by decide +kernel
theorem dX3_listFrom_1 : decode cX3_listFrom 1 = .ok (.istore_n 1, 1) := by decide +kernel
theorem dX3_listFrom_2 : decode cX3_listFrom 2 = .ok (.iconst 0, 1) := by decide +kernel
theorem dX3_listFrom_3 : decode cX3_listFrom 3 = .ok (.istore_n 2, 1) := by decide +kernel
theorem dX3_listFrom_4 : decode cX3_listFrom 4 = .ok (.iload_n 2, 1) := by decide +kernel
theorem dX3_listFrom_5 : decode cX3_listFrom 5 = .ok (.aload_n 0, 1) := by decide +kernel
theorem dX3_listFrom_6 : decode cX3_listFrom 6 = .ok (.getfield 67, 3) := by decide +kernel
theorem dX3_listFrom_9 : decode cX3_listFrom 9 = .ok (.if_icmp .ge 69, 3) := by decide +kernel
theorem dX3_listFrom_12 : decode cX3_listFrom 12 = .ok (.aload_n 0, 1) := by decide +kernel
theorem dX3_listFrom_13 : decode cX3_listFrom 13 = .ok (.getfield 49, 3) := by decide +kernel
theorem dX3_listFrom_16 : decode cX3_listFrom 16 = .ok (.iload_n 2, 1) := by decide +kernel
theorem dX3_listFrom_17 : decode cX3_listFrom 17 = .ok (.iload_n 1, 1) := by decide +kernel
theorem dX3_listFrom_18 : decode cX3_listFrom 18 = .ok (.iastore, 1) := by decide +kernel
theorem dX3_listFrom_19 : decode cX3_listFrom 19 = .ok (.iconst 0, 1) := by decide +kernel
theorem dX3_listFrom_20 : decode cX3_listFrom 20 = .ok (.istore_n 3, 1) := by decide +kernel
theorem dX3_listFrom_21 : decode cX3_listFrom 21 = .ok (.iload_n 3, 1) := by decide +kernel
theorem dX3_listFrom_22 : decode cX3_listFrom 22 = .ok (.aload_n 0, 1) := by decide +kernel
theorem dX3_listFrom_23 : decode cX3_listFrom 23 = .ok (.getfield 67, 3) := by decide +kernel
theorem dX3_listFrom_26 : decode cX3_listFrom 26 = .ok (.if_icmp .ge 46, 3) := by decide +kernel
theorem dX3_listFrom_29 : decode cX3_listFrom 29 = .ok (.iload_n 1, 1) := by decide +kernel
theorem dX3_listFrom_30 : decode cX3_listFrom 30 = .ok (.sipush 256, 3) := by decide +kernel
theorem dX3_listFrom_33 : decode cX3_listFrom 33 = .ok (.if_icmp .ge 39, 3) := by decide +kernel
theorem dX3_listFrom_36 : decode cX3_listFrom 36 = .ok (.aload_n 0, 1) := by decide +kernel
theorem dX3_listFrom_37 : decode cX3_listFrom 37 = .ok (.getfield 40, 3) := by decide +kernel
theorem dX3_listFrom_40 : decode cX3_listFrom 40 = .ok (.iload_n 3, 1) := by decide +kernel
theorem dX3_listFrom_41 : decode cX3_listFrom 41 = .ok (.iaload, 1) := by decide +kernel
theorem dX3_listFrom_42 : decode cX3_listFrom 42 = .ok (.iload_n 2, 1) := by decide +kernel
theorem dX3_listFrom_43 : decode cX3_listFrom 43 = .ok (.if_icmp .eq 13, 3) := by decide +kernel
theorem dX3_listFrom_46 : decode cX3_listFrom 46 = .ok (.aload_n 0, 1) := by decide +kernel
theorem dX3_listFrom_47 : decode cX3_listFrom 47 = .ok (.getfield 43, 3) := by decide +kernel
theorem dX3_listFrom_50 : decode cX3_listFrom 50 = .ok (.iload_n 3, 1) := by decide +kernel
theorem dX3_listFrom_51 : decode cX3_listFrom 51 = .ok (.iaload, 1) := by decide +kernel
theorem dX3_listFrom_52 : decode cX3_listFrom 52 = .ok (.iload_n 2, 1) := by decide +kernel
theorem dX3_listFrom_53 : decode cX3_listFrom 53 = .ok (.if_icmp .ne 13, 3) := by decide +kernel
theorem dX3_listFrom_56 : decode cX3_listFrom 56 = .ok (.aload_n 0, 1) := by decide +kernel
theorem dX3_listFrom_57 : decode cX3_listFrom 57 = .ok (.getfield 46, 3) := by decide +kernel
theorem dX3_listFrom_60 : decode cX3_listFrom 60 = .ok (.iload_n 1, 1) := by decide +kernel
theorem dX3_listFrom_61 : decode cX3_listFrom 61 = .ok (.iload_n 3, 1) := by decide +kernel
theorem dX3_listFrom_62 : decode cX3_listFrom 62 = .ok (.iastore, 1) := by decide +kernel
theorem dX3_listFrom_63 : decode cX3_listFrom 63 = .ok (.iinc 1 1, 3) := by decide +kernel
theorem dX3_listFrom_66 : decode cX3_listFrom 66 = .ok (.iinc 3 1, 3) := by decide +kernel
theorem dX3_listFrom_69 : decode cX3_listFrom 69 = .ok (.goto (-48), 3) := by decide +kernel
theorem dX3_listFrom_72 : decode cX3_listFrom 72 = .ok (.iinc 2 1, 3) := by decide +kernel
theorem dX3_listFrom_75 : decode cX3_listFrom 75 = .ok (.goto (-71), 3) := by decide +kernel
theorem dX3_listFrom_78 : decode cX3_listFrom 78 = .ok (.aload_n 0, 1) := by decide +kernel
theorem dX3_listFrom_79 : decode cX3_listFrom 79 = .ok (.getfield 49, 3) := by decide +kernel
theorem dX3_listFrom_82 : decode cX3_listFrom 82 = .ok (.aload_n 0, 1) := by decide +kernel
theorem dX3_listFrom_83 : decode cX3_listFrom 83 = .ok (.getfield 67, 3) := by decide +kernel
theorem dX3_listFrom_86 : decode cX3_listFrom 86 = .ok (.iload_n 1, 1) := by decide +kernel
theorem dX3_listFrom_87 : decode cX3_listFrom 87 = .ok (.iastore, 1) := by decide +kernel
theorem dX3_listFrom_88 : decode cX3_listFrom 88 = .ok (.return_, 1) := by decide +kernel
theorem dX3_edgesFrom_0 : decode cX3_edgesFrom 0 = .ok (.aload_n 0, 1) := by decide +kernel
theorem dX3_edgesFrom_1 : decode cX3_edgesFrom 1 = .ok (.iload_n 1, 1) := by decide +kernel
theorem dX3_edgesFrom_2 : decode cX3_edgesFrom 2 = .ok (.invokevirtual 129, 3) := by decide +kernel
theorem dX3_edgesFrom_5 : decode cX3_edgesFrom 5 = .ok (.ifCond .eq 43, 3) := by decide +kernel
theorem dX3_edgesFrom_8 : decode cX3_edgesFrom 8 = .ok (.aload_n 0, 1) := by decide +kernel
theorem dX3_edgesFrom_9 : decode cX3_edgesFrom 9 = .ok (.getfield 40, 3) := by decide +kernel
theorem dX3_edgesFrom_12 : decode cX3_edgesFrom 12 = .ok (.iload_n 1, 1) := by decide +kernel
theorem dX3_edgesFrom_13 : decode cX3_edgesFrom 13 = .ok (.iaload, 1) := by decide +kernel
theorem dX3_edgesFrom_14 : decode cX3_edgesFrom 14 = .ok (.iconst (-1), 1) := by decide +kernel
theorem dX3_edgesFrom_15 : decode cX3_edgesFrom 15 = .ok (.if_icmp .eq 7, 3) := by decide +kernel
theorem dX3_edgesFrom_18 : decode cX3_edgesFrom 18 = .ok (.iconst 1, 1) := by decide +kernel
theorem dX3_edgesFrom_19 : decode cX3_edgesFrom 19 = .ok (.goto 4, 3) := by decide +kernel
theorem dX3_edgesFrom_22 : decode cX3_edgesFrom 22 = .ok (.iconst 0, 1) := by decide +kernel
theorem dX3_edgesFrom_23 : decode cX3_edgesFrom 23 = .ok (.invokestatic 125, 3) := by decide +kernel
theorem dX3_edgesFrom_26 : decode cX3_edgesFrom 26 = .ok (.aload_n 0, 1) := by decide +kernel
theorem dX3_edgesFrom_27 : decode cX3_edgesFrom 27 = .ok (.getfield 43, 3) := by decide +kernel
theorem dX3_edgesFrom_30 : decode cX3_edgesFrom 30 = .ok (.iload_n 1, 1) := by decide +kernel
theorem dX3_edgesFrom_31 : decode cX3_edgesFrom 31 = .ok (.iaload, 1) := by decide +kernel
theorem dX3_edgesFrom_32 : decode cX3_edgesFrom 32 = .ok (.iconst (-1), 1) := by decide +kernel
theorem dX3_edgesFrom_33 : decode cX3_edgesFrom 33 = .ok (.if_icmp .eq 7, 3) := by decide +kernel
theorem dX3_edgesFrom_36 : decode cX3_edgesFrom 36 = .ok (.iconst 1, 1) := by decide +kernel
theorem dX3_edgesFrom_37 : decode cX3_edgesFrom 37 = .ok (.goto 4, 3) := by decide +kernel
theorem dX3_edgesFrom_40 : decode cX3_edgesFrom 40 = .ok (.iconst 0, 1) := by decide +kernel
theorem dX3_edgesFrom_41 : decode cX3_edgesFrom 41 = .ok (.invokestatic 125, 3) := by decide +kernel
theorem dX3_edgesFrom_44 : decode cX3_edgesFrom 44 = .ok (.iadd, 1) := by decide +kernel
theorem dX3_edgesFrom_45 : decode cX3_edgesFrom 45 = .ok (.goto 4, 3) := by decide +kernel
theorem dX3_edgesFrom_48 : decode cX3_edgesFrom 48 = .ok (.iconst 0, 1) := by decide +kernel
theorem dX3_edgesFrom_49 : decode cX3_edgesFrom 49 = .ok (.ireturn, 1) := by decide +kernel
theorem dX3_kthTarget_0 : decode cX3_kthTarget 0 = .ok (.aload_n 0, 1) := by decide +kernel
theorem dX3_kthTarget_1 : decode cX3_kthTarget 1 = .ok (.iload_n 1, 1) := by decide +kernel
theorem dX3_kthTarget_2 : decode cX3_kthTarget 2 = .ok (.invokevirtual 129, 3) := by decide +kernel
theorem dX3_kthTarget_5 : decode cX3_kthTarget 5 = .ok (.ifCond .ne 5, 3) := by decide +kernel
theorem dX3_kthTarget_8 : decode cX3_kthTarget 8 = .ok (.iconst (-1), 1) := by decide +kernel
theorem dX3_kthTarget_9 : decode cX3_kthTarget 9 = .ok (.ireturn, 1) := by decide +kernel
theorem dX3_kthTarget_10 : decode cX3_kthTarget 10 = .ok (.iload_n 2, 1) := by decide +kernel
theorem dX3_kthTarget_11 : decode cX3_kthTarget 11 = .ok (.ifCond .ne 12, 3) := by decide +kernel
theorem dX3_kthTarget_14 : decode cX3_kthTarget 14 = .ok (.aload_n 0, 1) := by decide +kernel
theorem dX3_kthTarget_15 : decode cX3_kthTarget 15 = .ok (.getfield 40, 3) := by decide +kernel
theorem dX3_kthTarget_18 : decode cX3_kthTarget 18 = .ok (.iload_n 1, 1) := by decide +kernel
theorem dX3_kthTarget_19 : decode cX3_kthTarget 19 = .ok (.iaload, 1) := by decide +kernel
theorem dX3_kthTarget_20 : decode cX3_kthTarget 20 = .ok (.goto 9, 3) := by decide +kernel
theorem dX3_kthTarget_23 : decode cX3_kthTarget 23 = .ok (.aload_n 0, 1) := by decide +kernel
theorem dX3_kthTarget_24 : decode cX3_kthTarget 24 = .ok (.getfield 43, 3) := by decide +kernel
theorem dX3_kthTarget_27 : decode cX3_kthTarget 27 = .ok (.iload_n 1, 1) := by decide +kernel
theorem dX3_kthTarget_28 : decode cX3_kthTarget 28 = .ok (.iaload, 1) := by decide +kernel
theorem dX3_kthTarget_29 : decode cX3_kthTarget 29 = .ok (.ireturn, 1) := by decide +kernel
theorem dX3_edgesTo_0 : decode cX3_edgesTo 0 = .ok (.aload_n 0, 1) := by decide +kernel
theorem dX3_edgesTo_1 : decode cX3_edgesTo 1 = .ok (.iload_n 1, 1) := by decide +kernel
theorem dX3_edgesTo_2 : decode cX3_edgesTo 2 = .ok (.invokevirtual 129, 3) := by decide +kernel
theorem dX3_edgesTo_5 : decode cX3_edgesTo 5 = .ok (.ifCond .eq 21, 3) := by decide +kernel
theorem dX3_edgesTo_8 : decode cX3_edgesTo 8 = .ok (.aload_n 0, 1) := by decide +kernel
theorem dX3_edgesTo_9 : decode cX3_edgesTo 9 = .ok (.getfield 49, 3) := by decide +kernel
theorem dX3_edgesTo_12 : decode cX3_edgesTo 12 = .ok (.iload_n 1, 1) := by decide +kernel
theorem dX3_edgesTo_13 : decode cX3_edgesTo 13 = .ok (.iconst 1, 1) := by decide +kernel
theorem dX3_edgesTo_14 : decode cX3_edgesTo 14 = .ok (.iadd, 1) := by decide +kernel
theorem dX3_edgesTo_15 : decode cX3_edgesTo 15 = .ok (.iaload, 1) := by decide +kernel
theorem dX3_edgesTo_16 : decode cX3_edgesTo 16 = .ok (.aload_n 0, 1) := by decide +kernel
theorem dX3_edgesTo_17 : decode cX3_edgesTo 17 = .ok (.getfield 49, 3) := by decide +kernel
theorem dX3_edgesTo_20 : decode cX3_edgesTo 20 = .ok (.iload_n 1, 1) := by decide +kernel
theorem dX3_edgesTo_21 : decode cX3_edgesTo 21 = .ok (.iaload, 1) := by decide +kernel
theorem dX3_edgesTo_22 : decode cX3_edgesTo 22 = .ok (.isub, 1) := by decide +kernel
theorem dX3_edgesTo_23 : decode cX3_edgesTo 23 = .ok (.goto 4, 3) := by decide +kernel
theorem dX3_edgesTo_26 : decode cX3_edgesTo 26 = .ok (.iconst 0, 1) := by decide +kernel
theorem dX3_edgesTo_27 : decode cX3_edgesTo 27 = .ok (.ireturn, 1) := by decide +kernel
theorem dX3_kthSource_0 : decode cX3_kthSource 0 = .ok (.aload_n 0, 1) := by decide +kernel
theorem dX3_kthSource_1 : decode cX3_kthSource 1 = .ok (.iload_n 1, 1) := by decide +kernel
theorem dX3_kthSource_2 : decode cX3_kthSource 2 = .ok (.invokevirtual 129, 3) := by decide +kernel
theorem dX3_kthSource_5 : decode cX3_kthSource 5 = .ok (.ifCond .eq 26, 3) := by decide +kernel
theorem dX3_kthSource_8 : decode cX3_kthSource 8 = .ok (.iload_n 2, 1) := by decide +kernel
theorem dX3_kthSource_9 : decode cX3_kthSource 9 = .ok (.ifCond .lt 22, 3) := by decide +kernel
theorem dX3_kthSource_12 : decode cX3_kthSource 12 = .ok (.iload_n 2, 1) := by decide +kernel
theorem dX3_kthSource_13 : decode cX3_kthSource 13 = .ok (.aload_n 0, 1) := by decide +kernel
theorem dX3_kthSource_14 : decode cX3_kthSource 14 = .ok (.getfield 49, 3) := by decide +kernel
theorem dX3_kthSource_17 : decode cX3_kthSource 17 = .ok (.iload_n 1, 1) := by decide +kernel
theorem dX3_kthSource_18 : decode cX3_kthSource 18 = .ok (.iconst 1, 1) := by decide +kernel
theorem dX3_kthSource_19 : decode cX3_kthSource 19 = .ok (.iadd, 1) := by decide +kernel
theorem dX3_kthSource_20 : decode cX3_kthSource 20 = .ok (.iaload, 1) := by decide +kernel
theorem dX3_kthSource_21 : decode cX3_kthSource 21 = .ok (.aload_n 0, 1) := by decide +kernel
theorem dX3_kthSource_22 : decode cX3_kthSource 22 = .ok (.getfield 49, 3) := by decide +kernel
theorem dX3_kthSource_25 : decode cX3_kthSource 25 = .ok (.iload_n 1, 1) := by decide +kernel
theorem dX3_kthSource_26 : decode cX3_kthSource 26 = .ok (.iaload, 1) := by decide +kernel
theorem dX3_kthSource_27 : decode cX3_kthSource 27 = .ok (.isub, 1) := by decide +kernel
theorem dX3_kthSource_28 : decode cX3_kthSource 28 = .ok (.if_icmp .lt 5, 3) := by decide +kernel
theorem dX3_kthSource_31 : decode cX3_kthSource 31 = .ok (.iconst (-1), 1) := by decide +kernel
theorem dX3_kthSource_32 : decode cX3_kthSource 32 = .ok (.ireturn, 1) := by decide +kernel
theorem dX3_kthSource_33 : decode cX3_kthSource 33 = .ok (.aload_n 0, 1) := by decide +kernel
theorem dX3_kthSource_34 : decode cX3_kthSource 34 = .ok (.getfield 49, 3) := by decide +kernel
theorem dX3_kthSource_37 : decode cX3_kthSource 37 = .ok (.iload_n 1, 1) := by decide +kernel
theorem dX3_kthSource_38 : decode cX3_kthSource 38 = .ok (.iaload, 1) := by decide +kernel
theorem dX3_kthSource_39 : decode cX3_kthSource 39 = .ok (.iload_n 2, 1) := by decide +kernel
theorem dX3_kthSource_40 : decode cX3_kthSource 40 = .ok (.iadd, 1) := by decide +kernel
theorem dX3_kthSource_41 : decode cX3_kthSource 41 = .ok (.istore_n 3, 1) := by decide +kernel
theorem dX3_kthSource_42 : decode cX3_kthSource 42 = .ok (.iload_n 3, 1) := by decide +kernel
theorem dX3_kthSource_43 : decode cX3_kthSource 43 = .ok (.ifCond .lt 19, 3) := by decide +kernel
theorem dX3_kthSource_46 : decode cX3_kthSource 46 = .ok (.iload_n 3, 1) := by decide +kernel
theorem dX3_kthSource_47 : decode cX3_kthSource 47 = .ok (.sipush 256, 3) := by decide +kernel
theorem dX3_kthSource_50 : decode cX3_kthSource 50 = .ok (.if_icmp .ge 12, 3) := by decide +kernel
theorem dX3_kthSource_53 : decode cX3_kthSource 53 = .ok (.aload_n 0, 1) := by decide +kernel
theorem dX3_kthSource_54 : decode cX3_kthSource 54 = .ok (.getfield 46, 3) := by decide +kernel
theorem dX3_kthSource_57 : decode cX3_kthSource 57 = .ok (.iload_n 3, 1) := by decide +kernel
theorem dX3_kthSource_58 : decode cX3_kthSource 58 = .ok (.iaload, 1) := by decide +kernel
theorem dX3_kthSource_59 : decode cX3_kthSource 59 = .ok (.goto 4, 3) := by decide +kernel
theorem dX3_kthSource_62 : decode cX3_kthSource 62 = .ok (.iconst (-1), 1) := by decide +kernel
theorem dX3_kthSource_63 : decode cX3_kthSource 63 = .ok (.ireturn, 1) := by decide +kernel
theorem dX3_edges_0 : decode cX3_edges 0 = .ok (.iconst 0, 1) := by decide +kernel
theorem dX3_edges_1 : decode cX3_edges 1 = .ok (.istore_n 1, 1) := by decide +kernel
theorem dX3_edges_2 : decode cX3_edges 2 = .ok (.iconst 0, 1) := by decide +kernel
theorem dX3_edges_3 : decode cX3_edges 3 = .ok (.istore_n 2, 1) := by decide +kernel
theorem dX3_edges_4 : decode cX3_edges 4 = .ok (.iload_n 2, 1) := by decide +kernel
theorem dX3_edges_5 : decode cX3_edges 5 = .ok (.aload_n 0, 1) := by decide +kernel
theorem dX3_edges_6 : decode cX3_edges 6 = .ok (.getfield 67, 3) := by decide +kernel
theorem dX3_edges_9 : decode cX3_edges 9 = .ok (.if_icmp .ge 17, 3) := by decide +kernel
theorem dX3_edges_12 : decode cX3_edges 12 = .ok (.iload_n 1, 1) := by decide +kernel
theorem dX3_edges_13 : decode cX3_edges 13 = .ok (.aload_n 0, 1) := by decide +kernel
theorem dX3_edges_14 : decode cX3_edges 14 = .ok (.iload_n 2, 1) := by decide +kernel
theorem dX3_edges_15 : decode cX3_edges 15 = .ok (.invokevirtual 116, 3) := by decide +kernel
theorem dX3_edges_18 : decode cX3_edges 18 = .ok (.iadd, 1) := by decide +kernel
theorem dX3_edges_19 : decode cX3_edges 19 = .ok (.istore_n 1, 1) := by decide +kernel
theorem dX3_edges_20 : decode cX3_edges 20 = .ok (.iinc 2 1, 3) := by decide +kernel
theorem dX3_edges_23 : decode cX3_edges 23 = .ok (.goto (-19), 3) := by decide +kernel
theorem dX3_edges_26 : decode cX3_edges 26 = .ok (.iload_n 1, 1) := by decide +kernel
theorem dX3_edges_27 : decode cX3_edges 27 = .ok (.ireturn, 1) := by decide +kernel
theorem dX3_countOf_0 : decode cX3_countOf 0 = .ok (.iconst 0, 1) := by decide +kernel
theorem dX3_countOf_1 : decode cX3_countOf 1 = .ok (.istore_n 2, 1) := by decide +kernel
theorem dX3_countOf_2 : decode cX3_countOf 2 = .ok (.iconst 0, 1) := by decide +kernel
theorem dX3_countOf_3 : decode cX3_countOf 3 = .ok (.istore_n 3, 1) := by decide +kernel
theorem dX3_countOf_4 : decode cX3_countOf 4 = .ok (.iload_n 3, 1) := by decide +kernel
theorem dX3_countOf_5 : decode cX3_countOf 5 = .ok (.aload_n 0, 1) := by decide +kernel
theorem dX3_countOf_6 : decode cX3_countOf 6 = .ok (.getfield 67, 3) := by decide +kernel
theorem dX3_countOf_9 : decode cX3_countOf 9 = .ok (.if_icmp .ge 30, 3) := by decide +kernel
theorem dX3_countOf_12 : decode cX3_countOf 12 = .ok (.iload_n 2, 1) := by decide +kernel
theorem dX3_countOf_13 : decode cX3_countOf 13 = .ok (.aload_n 0, 1) := by decide +kernel
theorem dX3_countOf_14 : decode cX3_countOf 14 = .ok (.getfield 18, 3) := by decide +kernel
theorem dX3_countOf_17 : decode cX3_countOf 17 = .ok (.iload_n 3, 1) := by decide +kernel
theorem dX3_countOf_18 : decode cX3_countOf 18 = .ok (.iaload, 1) := by decide +kernel
theorem dX3_countOf_19 : decode cX3_countOf 19 = .ok (.iload_n 1, 1) := by decide +kernel
theorem dX3_countOf_20 : decode cX3_countOf 20 = .ok (.if_icmp .ne 7, 3) := by decide +kernel
theorem dX3_countOf_23 : decode cX3_countOf 23 = .ok (.iconst 1, 1) := by decide +kernel
theorem dX3_countOf_24 : decode cX3_countOf 24 = .ok (.goto 4, 3) := by decide +kernel
theorem dX3_countOf_27 : decode cX3_countOf 27 = .ok (.iconst 0, 1) := by decide +kernel
theorem dX3_countOf_28 : decode cX3_countOf 28 = .ok (.invokestatic 125, 3) := by decide +kernel
theorem dX3_countOf_31 : decode cX3_countOf 31 = .ok (.iadd, 1) := by decide +kernel
theorem dX3_countOf_32 : decode cX3_countOf 32 = .ok (.istore_n 2, 1) := by decide +kernel
theorem dX3_countOf_33 : decode cX3_countOf 33 = .ok (.iinc 3 1, 3) := by decide +kernel
theorem dX3_countOf_36 : decode cX3_countOf 36 = .ok (.goto (-32), 3) := by decide +kernel
theorem dX3_countOf_39 : decode cX3_countOf 39 = .ok (.iload_n 2, 1) := by decide +kernel
theorem dX3_countOf_40 : decode cX3_countOf 40 = .ok (.ireturn, 1) := by decide +kernel
theorem dX3_nodesWith_0 : decode cX3_nodesWith 0 = .ok (.iconst 0, 1) := by decide +kernel
theorem dX3_nodesWith_1 : decode cX3_nodesWith 1 = .ok (.istore_n 3, 1) := by decide +kernel
theorem dX3_nodesWith_2 : decode cX3_nodesWith 2 = .ok (.iconst 0, 1) := by decide +kernel
theorem dX3_nodesWith_3 : decode cX3_nodesWith 3 = .ok (.istore 4, 2) := by decide +kernel
theorem dX3_nodesWith_5 : decode cX3_nodesWith 5 = .ok (.iload 4, 2) := by decide +kernel
theorem dX3_nodesWith_7 : decode cX3_nodesWith 7 = .ok (.aload_n 0, 1) := by decide +kernel
theorem dX3_nodesWith_8 : decode cX3_nodesWith 8 = .ok (.getfield 67, 3) := by decide +kernel
theorem dX3_nodesWith_11 : decode cX3_nodesWith 11 = .ok (.if_icmp .ge 29, 3) := by decide +kernel
theorem dX3_nodesWith_14 : decode cX3_nodesWith 14 = .ok (.iload_n 3, 1) := by decide +kernel
theorem dX3_nodesWith_15 : decode cX3_nodesWith 15 = .ok (.aload_n 1, 1) := by decide +kernel
theorem dX3_nodesWith_16 : decode cX3_nodesWith 16 = .ok (.iload 4, 2) := by decide +kernel
theorem dX3_nodesWith_18 : decode cX3_nodesWith 18 = .ok (.iaload, 1) := by decide +kernel
theorem dX3_nodesWith_19 : decode cX3_nodesWith 19 = .ok (.iload_n 2, 1) := by decide +kernel
theorem dX3_nodesWith_20 : decode cX3_nodesWith 20 = .ok (.iand, 1) := by decide +kernel
theorem dX3_nodesWith_21 : decode cX3_nodesWith 21 = .ok (.ifCond .eq 7, 3) := by decide +kernel
theorem dX3_nodesWith_24 : decode cX3_nodesWith 24 = .ok (.iconst 1, 1) := by decide +kernel
theorem dX3_nodesWith_25 : decode cX3_nodesWith 25 = .ok (.goto 4, 3) := by decide +kernel
theorem dX3_nodesWith_28 : decode cX3_nodesWith 28 = .ok (.iconst 0, 1) := by decide +kernel
theorem dX3_nodesWith_29 : decode cX3_nodesWith 29 = .ok (.invokestatic 125, 3) := by decide +kernel
theorem dX3_nodesWith_32 : decode cX3_nodesWith 32 = .ok (.iadd, 1) := by decide +kernel
theorem dX3_nodesWith_33 : decode cX3_nodesWith 33 = .ok (.istore_n 3, 1) := by decide +kernel
theorem dX3_nodesWith_34 : decode cX3_nodesWith 34 = .ok (.iinc 4 1, 3) := by decide +kernel
theorem dX3_nodesWith_37 : decode cX3_nodesWith 37 = .ok (.goto (-32), 3) := by decide +kernel
theorem dX3_nodesWith_40 : decode cX3_nodesWith 40 = .ok (.iload_n 3, 1) := by decide +kernel
theorem dX3_nodesWith_41 : decode cX3_nodesWith 41 = .ok (.ireturn, 1) := by decide +kernel
theorem dX3_bitsIn_0 : decode cX3_bitsIn 0 = .ok (.iconst 0, 1) := by decide +kernel
theorem dX3_bitsIn_1 : decode cX3_bitsIn 1 = .ok (.istore_n 2, 1) := by decide +kernel
theorem dX3_bitsIn_2 : decode cX3_bitsIn 2 = .ok (.iconst 0, 1) := by decide +kernel
theorem dX3_bitsIn_3 : decode cX3_bitsIn 3 = .ok (.istore_n 3, 1) := by decide +kernel
theorem dX3_bitsIn_4 : decode cX3_bitsIn 4 = .ok (.iload_n 3, 1) := by decide +kernel
theorem dX3_bitsIn_5 : decode cX3_bitsIn 5 = .ok (.aload_n 0, 1) := by decide +kernel
theorem dX3_bitsIn_6 : decode cX3_bitsIn 6 = .ok (.getfield 67, 3) := by decide +kernel
theorem dX3_bitsIn_9 : decode cX3_bitsIn 9 = .ok (.if_icmp .ge 18, 3) := by decide +kernel
theorem dX3_bitsIn_12 : decode cX3_bitsIn 12 = .ok (.iload_n 2, 1) := by decide +kernel
theorem dX3_bitsIn_13 : decode cX3_bitsIn 13 = .ok (.aload_n 1, 1) := by decide +kernel
theorem dX3_bitsIn_14 : decode cX3_bitsIn 14 = .ok (.iload_n 3, 1) := by decide +kernel
theorem dX3_bitsIn_15 : decode cX3_bitsIn 15 = .ok (.iaload, 1) := by decide +kernel
theorem dX3_bitsIn_16 : decode cX3_bitsIn 16 = .ok (.invokestatic 133, 3) := by decide +kernel
theorem dX3_bitsIn_19 : decode cX3_bitsIn 19 = .ok (.iadd, 1) := by decide +kernel
theorem dX3_bitsIn_20 : decode cX3_bitsIn 20 = .ok (.istore_n 2, 1) := by decide +kernel
theorem dX3_bitsIn_21 : decode cX3_bitsIn 21 = .ok (.iinc 3 1, 3) := by decide +kernel
theorem dX3_bitsIn_24 : decode cX3_bitsIn 24 = .ok (.goto (-20), 3) := by decide +kernel
theorem dX3_bitsIn_27 : decode cX3_bitsIn 27 = .ok (.iload_n 2, 1) := by decide +kernel
theorem dX3_bitsIn_28 : decode cX3_bitsIn 28 = .ok (.ireturn, 1) := by decide +kernel
theorem dX4_init_0 : decode cX4_init 0 = .ok (.aload_n 0, 1) := by decide +kernel
theorem dX4_init_1 : decode cX4_init 1 = .ok (.invokespecial 3, 3) := by decide +kernel
theorem dX4_init_4 : decode cX4_init 4 = .ok (.aload_n 0, 1) := by decide +kernel
theorem dX4_init_5 : decode cX4_init 5 = .ok (.sipush 128, 3) := by decide +kernel
theorem dX4_init_8 : decode cX4_init 8 = .ok (.newarray .long, 2) := by decide +kernel
theorem dX4_init_10 : decode cX4_init 10 = .ok (.putfield 9, 3) := by decide +kernel
theorem dX4_init_13 : decode cX4_init 13 = .ok (.aload_n 0, 1) := by decide +kernel
theorem dX4_init_14 : decode cX4_init 14 = .ok (.sipush 128, 3) := by decide +kernel
theorem dX4_init_17 : decode cX4_init 17 = .ok (.newarray .long, 2) := by decide +kernel
theorem dX4_init_19 : decode cX4_init 19 = .ok (.putfield 15, 3) := by decide +kernel
theorem dX4_init_22 : decode cX4_init 22 = .ok (.aload_n 0, 1) := by decide +kernel
theorem dX4_init_23 : decode cX4_init 23 = .ok (.sipush 128, 3) := by decide +kernel
theorem dX4_init_26 : decode cX4_init 26 = .ok (.newarray .int, 2) := by decide +kernel
theorem dX4_init_28 : decode cX4_init 28 = .ok (.putfield 18, 3) := by decide +kernel
theorem dX4_init_31 : decode cX4_init 31 = .ok (.aload_n 0, 1) := by decide +kernel
theorem dX4_init_32 : decode cX4_init 32 = .ok (.sipush 128, 3) := by decide +kernel
theorem dX4_init_35 : decode cX4_init 35 = .ok (.newarray .int, 2) := by decide +kernel
theorem dX4_init_37 : decode cX4_init 37 = .ok (.putfield 22, 3) := by decide +kernel
theorem dX4_init_40 : decode cX4_init 40 = .ok (.return_, 1) := by decide +kernel
theorem dX4_build_0 : decode cX4_build 0 = .ok (.aload_n 0, 1) := by decide +kernel
theorem dX4_build_1 : decode cX4_build 1 = .ok (.aload_n 1, 1) := by decide +kernel
theorem dX4_build_2 : decode cX4_build 2 = .ok (.invokevirtual 25, 3) := by decide +kernel
theorem dX4_build_5 : decode cX4_build 5 = .ok (.aload_n 0, 1) := by decide +kernel
theorem dX4_build_6 : decode cX4_build 6 = .ok (.getfield 22, 3) := by decide +kernel
theorem dX4_build_9 : decode cX4_build 9 = .ok (.iconst 0, 1) := by decide +kernel
theorem dX4_build_10 : decode cX4_build 10 = .ok (.invokestatic 29, 3) := by decide +kernel
theorem dX4_build_13 : decode cX4_build 13 = .ok (.aload_n 0, 1) := by decide +kernel
theorem dX4_build_14 : decode cX4_build 14 = .ok (.iconst 0, 1) := by decide +kernel
theorem dX4_build_15 : decode cX4_build 15 = .ok (.putfield 35, 3) := by decide +kernel
theorem dX4_build_18 : decode cX4_build 18 = .ok (.iconst 0, 1) := by decide +kernel
theorem dX4_build_19 : decode cX4_build 19 = .ok (.istore_n 2, 1) := by decide +kernel
theorem dX4_build_20 : decode cX4_build 20 = .ok (.iload_n 2, 1) := by decide +kernel
theorem dX4_build_21 : decode cX4_build 21 = .ok (.aload_n 1, 1) := by decide +kernel
theorem dX4_build_22 : decode cX4_build 22 = .ok (.getfield 39, 3) := by decide +kernel
theorem dX4_build_25 : decode cX4_build 25 = .ok (.if_icmp .ge 34, 3) := by decide +kernel
theorem dX4_build_28 : decode cX4_build 28 = .ok (.aload_n 0, 1) := by decide +kernel
theorem dX4_build_29 : decode cX4_build 29 = .ok (.aload_n 1, 1) := by decide +kernel
theorem dX4_build_30 : decode cX4_build 30 = .ok (.iload_n 2, 1) := by decide +kernel
theorem dX4_build_31 : decode cX4_build 31 = .ok (.invokevirtual 44, 3) := by decide +kernel
theorem dX4_build_34 : decode cX4_build 34 = .ok (.ifCond .eq 19, 3) := by decide +kernel
theorem dX4_build_37 : decode cX4_build 37 = .ok (.aload_n 0, 1) := by decide +kernel
theorem dX4_build_38 : decode cX4_build 38 = .ok (.dup, 1) := by decide +kernel
theorem dX4_build_39 : decode cX4_build 39 = .ok (.getfield 35, 3) := by decide +kernel
theorem dX4_build_42 : decode cX4_build 42 = .ok (.iconst 1, 1) := by decide +kernel
theorem dX4_build_43 : decode cX4_build 43 = .ok (.iadd, 1) := by decide +kernel
theorem dX4_build_44 : decode cX4_build 44 = .ok (.putfield 35, 3) := by decide +kernel
theorem dX4_build_47 : decode cX4_build 47 = .ok (.aload_n 0, 1) := by decide +kernel
theorem dX4_build_48 : decode cX4_build 48 = .ok (.aload_n 1, 1) := by decide +kernel
theorem dX4_build_49 : decode cX4_build 49 = .ok (.iload_n 2, 1) := by decide +kernel
theorem dX4_build_50 : decode cX4_build 50 = .ok (.invokevirtual 48, 3) := by decide +kernel
theorem dX4_build_53 : decode cX4_build 53 = .ok (.iinc 2 1, 3) := by decide +kernel
theorem dX4_build_56 : decode cX4_build 56 = .ok (.goto (-36), 3) := by decide +kernel
theorem dX4_build_59 : decode cX4_build 59 = .ok (.return_, 1) := by decide +kernel
theorem dX4_isOver_0 : decode cX4_isOver 0 = .ok (.iload_n 1, 1) := by decide +kernel
theorem dX4_isOver_1 : decode cX4_isOver 1 = .ok (.bipush 64, 2) := by decide +kernel
theorem dX4_isOver_3 : decode cX4_isOver 3 = .ok (.if_icmp .ge 26, 3) := by decide +kernel
theorem dX4_isOver_6 : decode cX4_isOver 6 = .ok (.aload_n 0, 1) := by decide +kernel
theorem dX4_isOver_7 : decode cX4_isOver 7 = .ok (.getfield 9, 3) := by decide +kernel
theorem dX4_isOver_10 : decode cX4_isOver 10 = .ok (.iload_n 2, 1) := by decide +kernel
theorem dX4_isOver_11 : decode cX4_isOver 11 = .ok (.laload, 1) := by decide +kernel
theorem dX4_isOver_12 : decode cX4_isOver 12 = .ok (.iload_n 1, 1) := by decide +kernel
theorem dX4_isOver_13 : decode cX4_isOver 13 = .ok (.lushr, 1) := by decide +kernel
theorem dX4_isOver_14 : decode cX4_isOver 14 = .ok (.lconst 1, 1) := by decide +kernel
theorem dX4_isOver_15 : decode cX4_isOver 15 = .ok (.land, 1) := by decide +kernel
theorem dX4_isOver_16 : decode cX4_isOver 16 = .ok (.lconst 1, 1) := by decide +kernel
theorem dX4_isOver_17 : decode cX4_isOver 17 = .ok (.lcmp, 1) := by decide +kernel
theorem dX4_isOver_18 : decode cX4_isOver 18 = .ok (.ifCond .ne 7, 3) := by decide +kernel
theorem dX4_isOver_21 : decode cX4_isOver 21 = .ok (.iconst 1, 1) := by decide +kernel
theorem dX4_isOver_22 : decode cX4_isOver 22 = .ok (.goto 30, 3) := by decide +kernel
theorem dX4_isOver_25 : decode cX4_isOver 25 = .ok (.iconst 0, 1) := by decide +kernel
theorem dX4_isOver_26 : decode cX4_isOver 26 = .ok (.goto 26, 3) := by decide +kernel
theorem dX4_isOver_29 : decode cX4_isOver 29 = .ok (.aload_n 0, 1) := by decide +kernel
theorem dX4_isOver_30 : decode cX4_isOver 30 = .ok (.getfield 15, 3) := by decide +kernel
theorem dX4_isOver_33 : decode cX4_isOver 33 = .ok (.iload_n 2, 1) := by decide +kernel
theorem dX4_isOver_34 : decode cX4_isOver 34 = .ok (.laload, 1) := by decide +kernel
theorem dX4_isOver_35 : decode cX4_isOver 35 = .ok (.iload_n 1, 1) := by decide +kernel
theorem dX4_isOver_36 : decode cX4_isOver 36 = .ok (.bipush 64, 2) := by decide +kernel
theorem dX4_isOver_38 : decode cX4_isOver 38 = .ok (.isub, 1) := by decide +kernel
theorem dX4_isOver_39 : decode cX4_isOver 39 = .ok (.lushr, 1) := by decide +kernel
theorem dX4_isOver_40 : decode cX4_isOver 40 = .ok (.lconst 1, 1) := by decide +kernel
theorem dX4_isOver_41 : decode cX4_isOver 41 = .ok (.land, 1) := by decide +kernel
theorem dX4_isOver_42 : decode cX4_isOver 42 = .ok (.lconst 1, 1) := by decide +kernel
theorem dX4_isOver_43 : decode cX4_isOver 43 = .ok (.lcmp, 1) := by decide +kernel
theorem dX4_isOver_44 : decode cX4_isOver 44 = .ok (.ifCond .ne 7, 3) := by decide +kernel
theorem dX4_isOver_47 : decode cX4_isOver 47 = .ok (.iconst 1, 1) := by decide +kernel
theorem dX4_isOver_48 : decode cX4_isOver 48 = .ok (.goto 4, 3) := by decide +kernel
theorem dX4_isOver_51 : decode cX4_isOver 51 = .ok (.iconst 0, 1) := by decide +kernel
theorem dX4_isOver_52 : decode cX4_isOver 52 = .ok (.ireturn, 1) := by decide +kernel
theorem dX4_findOver_0 : decode cX4_findOver 0 = .ok (.aload_n 0, 1) := by decide +kernel
theorem dX4_findOver_1 : decode cX4_findOver 1 = .ok (.getfield 9, 3) := by decide +kernel
theorem dX4_findOver_4 : decode cX4_findOver 4 = .ok (.ldc2_w 52, 3) := by decide +kernel
theorem dX4_findOver_7 : decode cX4_findOver 7 = .ok (.invokestatic 54, 3) := by decide +kernel
theorem dX4_findOver_10 : decode cX4_findOver 10 = .ok (.aload_n 0, 1) := by decide +kernel
theorem dX4_findOver_11 : decode cX4_findOver 11 = .ok (.getfield 15, 3) := by decide +kernel
theorem dX4_findOver_14 : decode cX4_findOver 14 = .ok (.ldc2_w 52, 3) := by decide +kernel
theorem dX4_findOver_17 : decode cX4_findOver 17 = .ok (.invokestatic 54, 3) := by decide +kernel
theorem dX4_findOver_20 : decode cX4_findOver 20 = .ok (.iconst 1, 1) := by decide +kernel
theorem dX4_findOver_21 : decode cX4_findOver 21 = .ok (.istore_n 2, 1) := by decide +kernel
theorem dX4_findOver_22 : decode cX4_findOver 22 = .ok (.iconst 0, 1) := by decide +kernel
theorem dX4_findOver_23 : decode cX4_findOver 23 = .ok (.istore_n 3, 1) := by decide +kernel
theorem dX4_findOver_24 : decode cX4_findOver 24 = .ok (.iload_n 2, 1) := by decide +kernel
theorem dX4_findOver_25 : decode cX4_findOver 25 = .ok (.ifCond .eq 56, 3) := by decide +kernel
theorem dX4_findOver_28 : decode cX4_findOver 28 = .ok (.iload_n 3, 1) := by decide +kernel
theorem dX4_findOver_29 : decode cX4_findOver 29 = .ok (.sipush 1000, 3) := by decide +kernel
theorem dX4_findOver_32 : decode cX4_findOver 32 = .ok (.if_icmp .ge 49, 3) := by decide +kernel
theorem dX4_findOver_35 : decode cX4_findOver 35 = .ok (.iconst 0, 1) := by decide +kernel
theorem dX4_findOver_36 : decode cX4_findOver 36 = .ok (.istore_n 2, 1) := by decide +kernel
theorem dX4_findOver_37 : decode cX4_findOver 37 = .ok (.iconst 0, 1) := by decide +kernel
theorem dX4_findOver_38 : decode cX4_findOver 38 = .ok (.istore 4, 2) := by decide +kernel
theorem dX4_findOver_40 : decode cX4_findOver 40 = .ok (.iload 4, 2) := by decide +kernel
theorem dX4_findOver_42 : decode cX4_findOver 42 = .ok (.aload_n 1, 1) := by decide +kernel
theorem dX4_findOver_43 : decode cX4_findOver 43 = .ok (.getfield 39, 3) := by decide +kernel
theorem dX4_findOver_46 : decode cX4_findOver 46 = .ok (.if_icmp .ge 29, 3) := by decide +kernel
theorem dX4_findOver_49 : decode cX4_findOver 49 = .ok (.aload_n 0, 1) := by decide +kernel
theorem dX4_findOver_50 : decode cX4_findOver 50 = .ok (.aload_n 1, 1) := by decide +kernel
theorem dX4_findOver_51 : decode cX4_findOver 51 = .ok (.iload 4, 2) := by decide +kernel
theorem dX4_findOver_53 : decode cX4_findOver 53 = .ok (.invokevirtual 57, 3) := by decide +kernel
theorem dX4_findOver_56 : decode cX4_findOver 56 = .ok (.ifCond .ne 7, 3) := by decide +kernel
theorem dX4_findOver_59 : decode cX4_findOver 59 = .ok (.iload_n 2, 1) := by decide +kernel
theorem dX4_findOver_60 : decode cX4_findOver 60 = .ok (.ifCond .eq 7, 3) := by decide +kernel
theorem dX4_findOver_63 : decode cX4_findOver 63 = .ok (.iconst 1, 1) := by decide +kernel
theorem dX4_findOver_64 : decode cX4_findOver 64 = .ok (.goto 4, 3) := by decide +kernel
theorem dX4_findOver_67 : decode cX4_findOver 67 = .ok (.iconst 0, 1) := by decide +kernel
theorem dX4_findOver_68 : decode cX4_findOver 68 = .ok (.istore_n 2, 1) := by decide +kernel
theorem dX4_findOver_69 : decode cX4_findOver 69 = .ok (.iinc 4 1, 3) := by decide +kernel
theorem dX4_findOver_72 : decode cX4_findOver 72 = .ok (.goto (-32), 3) := by decide +kernel
theorem dX4_findOver_75 : decode cX4_findOver 75 = .ok (.iinc 3 1, 3) := by decide +kernel
theorem dX4_findOver_78 : decode cX4_findOver 78 = .ok (.goto (-54), 3) := by decide +kernel
theorem dX4_findOver_81 : decode cX4_findOver 81 = .ok (.return_, 1) := by decide +kernel
theorem dX4_narrowsAt_0 : decode cX4_narrowsAt 0 = .ok (.iload_n 2, 1) := by decide +kernel
theorem dX4_narrowsAt_1 : decode cX4_narrowsAt 1 = .ok (.ifCond .ne 7, 3) := by decide +kernel
theorem dX4_narrowsAt_4 : decode cX4_narrowsAt 4 = .ok (.lconst 0, 1) := by decide +kernel
theorem dX4_narrowsAt_5 : decode cX4_narrowsAt 5 = .ok (.goto 6, 3) := by decide +kernel
theorem dX4_narrowsAt_8 : decode cX4_narrowsAt 8 = .ok (.ldc2_w 52, 3) := by decide +kernel
theorem dX4_narrowsAt_11 : decode cX4_narrowsAt 11 = .ok (.lstore_n 3, 1) := by decide +kernel
theorem dX4_narrowsAt_12 : decode cX4_narrowsAt 12 = .ok (.lload_n 3, 1) := by decide +kernel
theorem dX4_narrowsAt_13 : decode cX4_narrowsAt 13 = .ok (.lstore 5, 2) := by decide +kernel
theorem dX4_narrowsAt_15 : decode cX4_narrowsAt 15 = .ok (.iconst 0, 1) := by decide +kernel
theorem dX4_narrowsAt_16 : decode cX4_narrowsAt 16 = .ok (.istore 7, 2) := by decide +kernel
theorem dX4_narrowsAt_18 : decode cX4_narrowsAt 18 = .ok (.iload 7, 2) := by decide +kernel
theorem dX4_narrowsAt_20 : decode cX4_narrowsAt 20 = .ok (.aload_n 1, 1) := by decide +kernel
theorem dX4_narrowsAt_21 : decode cX4_narrowsAt 21 = .ok (.iload_n 2, 1) := by decide +kernel
theorem dX4_narrowsAt_22 : decode cX4_narrowsAt 22 = .ok (.invokevirtual 60, 3) := by decide +kernel
theorem dX4_narrowsAt_25 : decode cX4_narrowsAt 25 = .ok (.if_icmp .ge 66, 3) := by decide +kernel
theorem dX4_narrowsAt_28 : decode cX4_narrowsAt 28 = .ok (.aload_n 1, 1) := by decide +kernel
theorem dX4_narrowsAt_29 : decode cX4_narrowsAt 29 = .ok (.iload_n 2, 1) := by decide +kernel
theorem dX4_narrowsAt_30 : decode cX4_narrowsAt 30 = .ok (.iload 7, 2) := by decide +kernel
theorem dX4_narrowsAt_32 : decode cX4_narrowsAt 32 = .ok (.invokevirtual 64, 3) := by decide +kernel
theorem dX4_narrowsAt_35 : decode cX4_narrowsAt 35 = .ok (.istore 8, 2) := by decide +kernel
theorem dX4_narrowsAt_37 : decode cX4_narrowsAt 37 = .ok (.lload_n 3, 1) := by decide +kernel
theorem dX4_narrowsAt_38 : decode cX4_narrowsAt 38 = .ok (.aload_n 1, 1) := by decide +kernel
theorem dX4_narrowsAt_39 : decode cX4_narrowsAt 39 = .ok (.iload 8, 2) := by decide +kernel
theorem dX4_narrowsAt_41 : decode cX4_narrowsAt 41 = .ok (.invokevirtual 68, 3) := by decide +kernel
theorem dX4_narrowsAt_44 : decode cX4_narrowsAt 44 = .ok (.ifCond .eq 13, 3) := by decide +kernel
theorem dX4_narrowsAt_47 : decode cX4_narrowsAt 47 = .ok (.aload_n 0, 1) := by decide +kernel
theorem dX4_narrowsAt_48 : decode cX4_narrowsAt 48 = .ok (.getfield 9, 3) := by decide +kernel
theorem dX4_narrowsAt_51 : decode cX4_narrowsAt 51 = .ok (.iload 8, 2) := by decide +kernel
theorem dX4_narrowsAt_53 : decode cX4_narrowsAt 53 = .ok (.laload, 1) := by decide +kernel
theorem dX4_narrowsAt_54 : decode cX4_narrowsAt 54 = .ok (.goto 4, 3) := by decide +kernel
theorem dX4_narrowsAt_57 : decode cX4_narrowsAt 57 = .ok (.lconst 0, 1) := by decide +kernel
theorem dX4_narrowsAt_58 : decode cX4_narrowsAt 58 = .ok (.land, 1) := by decide +kernel
theorem dX4_narrowsAt_59 : decode cX4_narrowsAt 59 = .ok (.lstore_n 3, 1) := by decide +kernel
theorem dX4_narrowsAt_60 : decode cX4_narrowsAt 60 = .ok (.lload 5, 2) := by decide +kernel
theorem dX4_narrowsAt_62 : decode cX4_narrowsAt 62 = .ok (.aload_n 1, 1) := by decide +kernel
theorem dX4_narrowsAt_63 : decode cX4_narrowsAt 63 = .ok (.iload 8, 2) := by decide +kernel
theorem dX4_narrowsAt_65 : decode cX4_narrowsAt 65 = .ok (.invokevirtual 68, 3) := by decide +kernel
theorem dX4_narrowsAt_68 : decode cX4_narrowsAt 68 = .ok (.ifCond .eq 13, 3) := by decide +kernel
theorem dX4_narrowsAt_71 : decode cX4_narrowsAt 71 = .ok (.aload_n 0, 1) := by decide +kernel
theorem dX4_narrowsAt_72 : decode cX4_narrowsAt 72 = .ok (.getfield 15, 3) := by decide +kernel
theorem dX4_narrowsAt_75 : decode cX4_narrowsAt 75 = .ok (.iload 8, 2) := by decide +kernel
theorem dX4_narrowsAt_77 : decode cX4_narrowsAt 77 = .ok (.laload, 1) := by decide +kernel
theorem dX4_narrowsAt_78 : decode cX4_narrowsAt 78 = .ok (.goto 4, 3) := by decide +kernel
theorem dX4_narrowsAt_81 : decode cX4_narrowsAt 81 = .ok (.lconst 0, 1) := by decide +kernel
theorem dX4_narrowsAt_82 : decode cX4_narrowsAt 82 = .ok (.land, 1) := by decide +kernel
theorem dX4_narrowsAt_83 : decode cX4_narrowsAt 83 = .ok (.lstore 5, 2) := by decide +kernel
theorem dX4_narrowsAt_85 : decode cX4_narrowsAt 85 = .ok (.iinc 7 1, 3) := by decide +kernel
theorem dX4_narrowsAt_88 : decode cX4_narrowsAt 88 = .ok (.goto (-70), 3) := by decide +kernel
theorem dX4_narrowsAt_91 : decode cX4_narrowsAt 91 = .ok (.lload_n 3, 1) := by decide +kernel
theorem dX4_narrowsAt_92 : decode cX4_narrowsAt 92 = .ok (.iload_n 2, 1) := by decide +kernel
theorem dX4_narrowsAt_93 : decode cX4_narrowsAt 93 = .ok (.bipush 64, 2) := by decide +kernel
theorem dX4_narrowsAt_95 : decode cX4_narrowsAt 95 = .ok (.if_icmp .ge 9, 3) := by decide +kernel
theorem dX4_narrowsAt_98 : decode cX4_narrowsAt 98 = .ok (.lconst 1, 1) := by decide +kernel
theorem dX4_narrowsAt_99 : decode cX4_narrowsAt 99 = .ok (.iload_n 2, 1) := by decide +kernel
theorem dX4_narrowsAt_100 : decode cX4_narrowsAt 100 = .ok (.lshl, 1) := by decide +kernel
theorem dX4_narrowsAt_101 : decode cX4_narrowsAt 101 = .ok (.goto 4, 3) := by decide +kernel
theorem dX4_narrowsAt_104 : decode cX4_narrowsAt 104 = .ok (.lconst 0, 1) := by decide +kernel
theorem dX4_narrowsAt_105 : decode cX4_narrowsAt 105 = .ok (.lor, 1) := by decide +kernel
theorem dX4_narrowsAt_106 : decode cX4_narrowsAt 106 = .ok (.lstore_n 3, 1) := by decide +kernel
theorem dX4_narrowsAt_107 : decode cX4_narrowsAt 107 = .ok (.lload 5, 2) := by decide +kernel
theorem dX4_narrowsAt_109 : decode cX4_narrowsAt 109 = .ok (.iload_n 2, 1) := by decide +kernel
theorem dX4_narrowsAt_110 : decode cX4_narrowsAt 110 = .ok (.bipush 64, 2) := by decide +kernel
theorem dX4_narrowsAt_112 : decode cX4_narrowsAt 112 = .ok (.if_icmp .ge 7, 3) := by decide +kernel
theorem dX4_narrowsAt_115 : decode cX4_narrowsAt 115 = .ok (.lconst 0, 1) := by decide +kernel
theorem dX4_narrowsAt_116 : decode cX4_narrowsAt 116 = .ok (.goto 9, 3) := by decide +kernel
theorem dX4_narrowsAt_119 : decode cX4_narrowsAt 119 = .ok (.lconst 1, 1) := by decide +kernel
theorem dX4_narrowsAt_120 : decode cX4_narrowsAt 120 = .ok (.iload_n 2, 1) := by decide +kernel
theorem dX4_narrowsAt_121 : decode cX4_narrowsAt 121 = .ok (.bipush 64, 2) := by decide +kernel
theorem dX4_narrowsAt_123 : decode cX4_narrowsAt 123 = .ok (.isub, 1) := by decide +kernel
theorem dX4_narrowsAt_124 : decode cX4_narrowsAt 124 = .ok (.lshl, 1) := by decide +kernel
theorem dX4_narrowsAt_125 : decode cX4_narrowsAt 125 = .ok (.lor, 1) := by decide +kernel
theorem dX4_narrowsAt_126 : decode cX4_narrowsAt 126 = .ok (.lstore 5, 2) := by decide +kernel
theorem dX4_narrowsAt_128 : decode cX4_narrowsAt 128 = .ok (.lload_n 3, 1) := by decide +kernel
theorem dX4_narrowsAt_129 : decode cX4_narrowsAt 129 = .ok (.aload_n 0, 1) := by decide +kernel
theorem dX4_narrowsAt_130 : decode cX4_narrowsAt 130 = .ok (.getfield 9, 3) := by decide +kernel
theorem dX4_narrowsAt_133 : decode cX4_narrowsAt 133 = .ok (.iload_n 2, 1) := by decide +kernel
theorem dX4_narrowsAt_134 : decode cX4_narrowsAt 134 = .ok (.laload, 1) := by decide +kernel
theorem dX4_narrowsAt_135 : decode cX4_narrowsAt 135 = .ok (.lcmp, 1) := by decide +kernel
theorem dX4_narrowsAt_136 : decode cX4_narrowsAt 136 = .ok (.ifCond .ne 15, 3) := by decide +kernel
theorem dX4_narrowsAt_139 : decode cX4_narrowsAt 139 = .ok (.lload 5, 2) := by decide +kernel
theorem dX4_narrowsAt_141 : decode cX4_narrowsAt 141 = .ok (.aload_n 0, 1) := by decide +kernel
theorem dX4_narrowsAt_142 : decode cX4_narrowsAt 142 = .ok (.getfield 15, 3) := by decide +kernel
theorem dX4_narrowsAt_145 : decode cX4_narrowsAt 145 = .ok (.iload_n 2, 1) := by decide +kernel
theorem dX4_narrowsAt_146 : decode cX4_narrowsAt 146 = .ok (.laload, 1) := by decide +kernel
theorem dX4_narrowsAt_147 : decode cX4_narrowsAt 147 = .ok (.lcmp, 1) := by decide +kernel
theorem dX4_narrowsAt_148 : decode cX4_narrowsAt 148 = .ok (.ifCond .eq 7, 3) := by decide +kernel
theorem dX4_narrowsAt_151 : decode cX4_narrowsAt 151 = .ok (.iconst 1, 1) := by decide +kernel
theorem dX4_narrowsAt_152 : decode cX4_narrowsAt 152 = .ok (.goto 4, 3) := by decide +kernel
theorem dX4_narrowsAt_155 : decode cX4_narrowsAt 155 = .ok (.iconst 0, 1) := by decide +kernel
theorem dX4_narrowsAt_156 : decode cX4_narrowsAt 156 = .ok (.istore 7, 2) := by decide +kernel
theorem dX4_narrowsAt_158 : decode cX4_narrowsAt 158 = .ok (.aload_n 0, 1) := by decide +kernel
theorem dX4_narrowsAt_159 : decode cX4_narrowsAt 159 = .ok (.getfield 9, 3) := by decide +kernel
theorem dX4_narrowsAt_162 : decode cX4_narrowsAt 162 = .ok (.iload_n 2, 1) := by decide +kernel
theorem dX4_narrowsAt_163 : decode cX4_narrowsAt 163 = .ok (.lload_n 3, 1) := by decide +kernel
theorem dX4_narrowsAt_164 : decode cX4_narrowsAt 164 = .ok (.lastore, 1) := by decide +kernel
theorem dX4_narrowsAt_165 : decode cX4_narrowsAt 165 = .ok (.aload_n 0, 1) := by decide +kernel
theorem dX4_narrowsAt_166 : decode cX4_narrowsAt 166 = .ok (.getfield 15, 3) := by decide +kernel
theorem dX4_narrowsAt_169 : decode cX4_narrowsAt 169 = .ok (.iload_n 2, 1) := by decide +kernel
theorem dX4_narrowsAt_170 : decode cX4_narrowsAt 170 = .ok (.lload 5, 2) := by decide +kernel
theorem dX4_narrowsAt_172 : decode cX4_narrowsAt 172 = .ok (.lastore, 1) := by decide +kernel
theorem dX4_narrowsAt_173 : decode cX4_narrowsAt 173 = .ok (.iload 7, 2) := by decide +kernel
theorem dX4_narrowsAt_175 : decode cX4_narrowsAt 175 = .ok (.ireturn, 1) := by decide +kernel
theorem dX4_isHead_0 : decode cX4_isHead 0 = .ok (.iconst 0, 1) := by decide +kernel
theorem dX4_isHead_1 : decode cX4_isHead 1 = .ok (.istore_n 3, 1) := by decide +kernel
theorem dX4_isHead_2 : decode cX4_isHead 2 = .ok (.iload_n 3, 1) := by decide +kernel
theorem dX4_isHead_3 : decode cX4_isHead 3 = .ok (.aload_n 1, 1) := by decide +kernel
theorem dX4_isHead_4 : decode cX4_isHead 4 = .ok (.iload_n 2, 1) := by decide +kernel
theorem dX4_isHead_5 : decode cX4_isHead 5 = .ok (.invokevirtual 60, 3) := by decide +kernel
theorem dX4_isHead_8 : decode cX4_isHead 8 = .ok (.if_icmp .ge 38, 3) := by decide +kernel
theorem dX4_isHead_11 : decode cX4_isHead 11 = .ok (.aload_n 1, 1) := by decide +kernel
theorem dX4_isHead_12 : decode cX4_isHead 12 = .ok (.iload_n 2, 1) := by decide +kernel
theorem dX4_isHead_13 : decode cX4_isHead 13 = .ok (.iload_n 3, 1) := by decide +kernel
theorem dX4_isHead_14 : decode cX4_isHead 14 = .ok (.invokevirtual 64, 3) := by decide +kernel
theorem dX4_isHead_17 : decode cX4_isHead 17 = .ok (.istore 4, 2) := by decide +kernel
theorem dX4_isHead_19 : decode cX4_isHead 19 = .ok (.aload_n 1, 1) := by decide +kernel
theorem dX4_isHead_20 : decode cX4_isHead 20 = .ok (.iload 4, 2) := by decide +kernel
theorem dX4_isHead_22 : decode cX4_isHead 22 = .ok (.invokevirtual 68, 3) := by decide +kernel
theorem dX4_isHead_25 : decode cX4_isHead 25 = .ok (.ifCond .eq 15, 3) := by decide +kernel
theorem dX4_isHead_28 : decode cX4_isHead 28 = .ok (.aload_n 0, 1) := by decide +kernel
theorem dX4_isHead_29 : decode cX4_isHead 29 = .ok (.iload_n 2, 1) := by decide +kernel
theorem dX4_isHead_30 : decode cX4_isHead 30 = .ok (.iload 4, 2) := by decide +kernel
theorem dX4_isHead_32 : decode cX4_isHead 32 = .ok (.invokevirtual 72, 3) := by decide +kernel
theorem dX4_isHead_35 : decode cX4_isHead 35 = .ok (.ifCond .eq 5, 3) := by decide +kernel
theorem dX4_isHead_38 : decode cX4_isHead 38 = .ok (.iconst 1, 1) := by decide +kernel
theorem dX4_isHead_39 : decode cX4_isHead 39 = .ok (.ireturn, 1) := by decide +kernel
theorem dX4_isHead_40 : decode cX4_isHead 40 = .ok (.iinc 3 1, 3) := by decide +kernel
theorem dX4_isHead_43 : decode cX4_isHead 43 = .ok (.goto (-41), 3) := by decide +kernel
theorem dX4_isHead_46 : decode cX4_isHead 46 = .ok (.iconst 0, 1) := by decide +kernel
theorem dX4_isHead_47 : decode cX4_isHead 47 = .ok (.ireturn, 1) := by decide +kernel
theorem dX4_addLoop_0 : decode cX4_addLoop 0 = .ok (.aload_n 0, 1) := by decide +kernel
theorem dX4_addLoop_1 : decode cX4_addLoop 1 = .ok (.getfield 18, 3) := by decide +kernel
theorem dX4_addLoop_4 : decode cX4_addLoop 4 = .ok (.iconst 0, 1) := by decide +kernel
theorem dX4_addLoop_5 : decode cX4_addLoop 5 = .ok (.invokestatic 29, 3) := by decide +kernel
theorem dX4_addLoop_8 : decode cX4_addLoop 8 = .ok (.aload_n 0, 1) := by decide +kernel
theorem dX4_addLoop_9 : decode cX4_addLoop 9 = .ok (.getfield 18, 3) := by decide +kernel
theorem dX4_addLoop_12 : decode cX4_addLoop 12 = .ok (.iload_n 2, 1) := by decide +kernel
theorem dX4_addLoop_13 : decode cX4_addLoop 13 = .ok (.iconst 1, 1) := by decide +kernel
theorem dX4_addLoop_14 : decode cX4_addLoop 14 = .ok (.iastore, 1) := by decide +kernel
theorem dX4_addLoop_15 : decode cX4_addLoop 15 = .ok (.iconst 1, 1) := by decide +kernel
theorem dX4_addLoop_16 : decode cX4_addLoop 16 = .ok (.istore_n 3, 1) := by decide +kernel
theorem dX4_addLoop_17 : decode cX4_addLoop 17 = .ok (.iconst 0, 1) := by decide +kernel
theorem dX4_addLoop_18 : decode cX4_addLoop 18 = .ok (.istore 4, 2) := by decide +kernel
theorem dX4_addLoop_20 : decode cX4_addLoop 20 = .ok (.iload_n 3, 1) := by decide +kernel
theorem dX4_addLoop_21 : decode cX4_addLoop 21 = .ok (.ifCond .eq 78, 3) := by decide +kernel
theorem dX4_addLoop_24 : decode cX4_addLoop 24 = .ok (.iload 4, 2) := by decide +kernel
theorem dX4_addLoop_26 : decode cX4_addLoop 26 = .ok (.sipush 1000, 3) := by decide +kernel
theorem dX4_addLoop_29 : decode cX4_addLoop 29 = .ok (.if_icmp .ge 70, 3) := by decide +kernel
theorem dX4_addLoop_32 : decode cX4_addLoop 32 = .ok (.iconst 0, 1) := by decide +kernel
theorem dX4_addLoop_33 : decode cX4_addLoop 33 = .ok (.istore_n 3, 1) := by decide +kernel
theorem dX4_addLoop_34 : decode cX4_addLoop 34 = .ok (.aload_n 1, 1) := by decide +kernel
theorem dX4_addLoop_35 : decode cX4_addLoop 35 = .ok (.getfield 39, 3) := by decide +kernel
theorem dX4_addLoop_38 : decode cX4_addLoop 38 = .ok (.iconst 1, 1) := by decide +kernel
theorem dX4_addLoop_39 : decode cX4_addLoop 39 = .ok (.isub, 1) := by decide +kernel
theorem dX4_addLoop_40 : decode cX4_addLoop 40 = .ok (.istore 5, 2) := by decide +kernel
theorem dX4_addLoop_42 : decode cX4_addLoop 42 = .ok (.iload 5, 2) := by decide +kernel
theorem dX4_addLoop_44 : decode cX4_addLoop 44 = .ok (.ifCond .lt 49, 3) := by decide +kernel
theorem dX4_addLoop_47 : decode cX4_addLoop 47 = .ok (.aload_n 0, 1) := by decide +kernel
theorem dX4_addLoop_48 : decode cX4_addLoop 48 = .ok (.getfield 18, 3) := by decide +kernel
theorem dX4_addLoop_51 : decode cX4_addLoop 51 = .ok (.iload 5, 2) := by decide +kernel
theorem dX4_addLoop_53 : decode cX4_addLoop 53 = .ok (.iaload, 1) := by decide +kernel
theorem dX4_addLoop_54 : decode cX4_addLoop 54 = .ok (.ifCond .ne 33, 3) := by decide +kernel
theorem dX4_addLoop_57 : decode cX4_addLoop 57 = .ok (.aload_n 0, 1) := by decide +kernel
theorem dX4_addLoop_58 : decode cX4_addLoop 58 = .ok (.iload_n 2, 1) := by decide +kernel
theorem dX4_addLoop_59 : decode cX4_addLoop 59 = .ok (.iload 5, 2) := by decide +kernel
theorem dX4_addLoop_61 : decode cX4_addLoop 61 = .ok (.invokevirtual 72, 3) := by decide +kernel
theorem dX4_addLoop_64 : decode cX4_addLoop 64 = .ok (.ifCond .eq 23, 3) := by decide +kernel
theorem dX4_addLoop_67 : decode cX4_addLoop 67 = .ok (.aload_n 0, 1) := by decide +kernel
theorem dX4_addLoop_68 : decode cX4_addLoop 68 = .ok (.aload_n 1, 1) := by decide +kernel
theorem dX4_addLoop_69 : decode cX4_addLoop 69 = .ok (.iload 5, 2) := by decide +kernel
theorem dX4_addLoop_71 : decode cX4_addLoop 71 = .ok (.invokevirtual 76, 3) := by decide +kernel
theorem dX4_addLoop_74 : decode cX4_addLoop 74 = .ok (.ifCond .eq 13, 3) := by decide +kernel
theorem dX4_addLoop_77 : decode cX4_addLoop 77 = .ok (.aload_n 0, 1) := by decide +kernel
theorem dX4_addLoop_78 : decode cX4_addLoop 78 = .ok (.getfield 18, 3) := by decide +kernel
theorem dX4_addLoop_81 : decode cX4_addLoop 81 = .ok (.iload 5, 2) := by decide +kernel
theorem dX4_addLoop_83 : decode cX4_addLoop 83 = .ok (.iconst 1, 1) := by decide +kernel
theorem dX4_addLoop_84 : decode cX4_addLoop 84 = .ok (.iastore, 1) := by decide +kernel
theorem dX4_addLoop_85 : decode cX4_addLoop 85 = .ok (.iconst 1, 1) := by decide +kernel
theorem dX4_addLoop_86 : decode cX4_addLoop 86 = .ok (.istore_n 3, 1) := by decide +kernel
theorem dX4_addLoop_87 : decode cX4_addLoop 87 = .ok (.iinc 5 (-1), 3) := by decide +kernel
theorem dX4_addLoop_90 : decode cX4_addLoop 90 = .ok (.goto (-48), 3) := by decide +kernel
theorem dX4_addLoop_93 : decode cX4_addLoop 93 = .ok (.iinc 4 1, 3) := by decide +kernel
theorem dX4_addLoop_96 : decode cX4_addLoop 96 = .ok (.goto (-76), 3) := by decide +kernel
theorem dX4_addLoop_99 : decode cX4_addLoop 99 = .ok (.iconst 0, 1) := by decide +kernel
theorem dX4_addLoop_100 : decode cX4_addLoop 100 = .ok (.istore 4, 2) := by decide +kernel
theorem dX4_addLoop_102 : decode cX4_addLoop 102 = .ok (.iload 4, 2) := by decide +kernel
theorem dX4_addLoop_104 : decode cX4_addLoop 104 = .ok (.aload_n 1, 1) := by decide +kernel
theorem dX4_addLoop_105 : decode cX4_addLoop 105 = .ok (.getfield 39, 3) := by decide +kernel
theorem dX4_addLoop_108 : decode cX4_addLoop 108 = .ok (.if_icmp .ge 26, 3) := by decide +kernel
theorem dX4_addLoop_111 : decode cX4_addLoop 111 = .ok (.aload_n 0, 1) := by decide +kernel
theorem dX4_addLoop_112 : decode cX4_addLoop 112 = .ok (.getfield 22, 3) := by decide +kernel
theorem dX4_addLoop_115 : decode cX4_addLoop 115 = .ok (.iload 4, 2) := by decide +kernel
theorem dX4_addLoop_117 : decode cX4_addLoop 117 = .ok (.dup2, 1) := by decide +kernel
theorem dX4_addLoop_118 : decode cX4_addLoop 118 = .ok (.iaload, 1) := by decide +kernel
theorem dX4_addLoop_119 : decode cX4_addLoop 119 = .ok (.aload_n 0, 1) := by decide +kernel
theorem dX4_addLoop_120 : decode cX4_addLoop 120 = .ok (.getfield 18, 3) := by decide +kernel
theorem dX4_addLoop_123 : decode cX4_addLoop 123 = .ok (.iload 4, 2) := by decide +kernel
theorem dX4_addLoop_125 : decode cX4_addLoop 125 = .ok (.iaload, 1) := by decide +kernel
theorem dX4_addLoop_126 : decode cX4_addLoop 126 = .ok (.iadd, 1) := by decide +kernel
theorem dX4_addLoop_127 : decode cX4_addLoop 127 = .ok (.iastore, 1) := by decide +kernel
theorem dX4_addLoop_128 : decode cX4_addLoop 128 = .ok (.iinc 4 1, 3) := by decide +kernel
theorem dX4_addLoop_131 : decode cX4_addLoop 131 = .ok (.goto (-29), 3) := by decide +kernel
theorem dX4_addLoop_134 : decode cX4_addLoop 134 = .ok (.return_, 1) := by decide +kernel
theorem dX4_leadsInside_0 : decode cX4_leadsInside 0 = .ok (.iconst 0, 1) := by decide +kernel
theorem dX4_leadsInside_1 : decode cX4_leadsInside 1 = .ok (.istore_n 3, 1) := by decide +kernel
theorem dX4_leadsInside_2 : decode cX4_leadsInside 2 = .ok (.iload_n 3, 1) := by decide +kernel
theorem dX4_leadsInside_3 : decode cX4_leadsInside 3 = .ok (.aload_n 1, 1) := by decide +kernel
theorem dX4_leadsInside_4 : decode cX4_leadsInside 4 = .ok (.iload_n 2, 1) := by decide +kernel
theorem dX4_leadsInside_5 : decode cX4_leadsInside 5 = .ok (.invokevirtual 79, 3) := by decide +kernel
theorem dX4_leadsInside_8 : decode cX4_leadsInside 8 = .ok (.if_icmp .ge 39, 3) := by decide +kernel
theorem dX4_leadsInside_11 : decode cX4_leadsInside 11 = .ok (.aload_n 1, 1) := by decide +kernel
theorem dX4_leadsInside_12 : decode cX4_leadsInside 12 = .ok (.iload_n 2, 1) := by decide +kernel
theorem dX4_leadsInside_13 : decode cX4_leadsInside 13 = .ok (.iload_n 3, 1) := by decide +kernel
theorem dX4_leadsInside_14 : decode cX4_leadsInside 14 = .ok (.invokevirtual 82, 3) := by decide +kernel
theorem dX4_leadsInside_17 : decode cX4_leadsInside 17 = .ok (.istore 4, 2) := by decide +kernel
theorem dX4_leadsInside_19 : decode cX4_leadsInside 19 = .ok (.aload_n 1, 1) := by decide +kernel
theorem dX4_leadsInside_20 : decode cX4_leadsInside 20 = .ok (.iload 4, 2) := by decide +kernel
theorem dX4_leadsInside_22 : decode cX4_leadsInside 22 = .ok (.invokevirtual 68, 3) := by decide +kernel
theorem dX4_leadsInside_25 : decode cX4_leadsInside 25 = .ok (.ifCond .eq 16, 3) := by decide +kernel
theorem dX4_leadsInside_28 : decode cX4_leadsInside 28 = .ok (.aload_n 0, 1) := by decide +kernel
theorem dX4_leadsInside_29 : decode cX4_leadsInside 29 = .ok (.getfield 18, 3) := by decide +kernel
theorem dX4_leadsInside_32 : decode cX4_leadsInside 32 = .ok (.iload 4, 2) := by decide +kernel
theorem dX4_leadsInside_34 : decode cX4_leadsInside 34 = .ok (.iaload, 1) := by decide +kernel
theorem dX4_leadsInside_35 : decode cX4_leadsInside 35 = .ok (.iconst 1, 1) := by decide +kernel
theorem dX4_leadsInside_36 : decode cX4_leadsInside 36 = .ok (.if_icmp .ne 5, 3) := by decide +kernel
theorem dX4_leadsInside_39 : decode cX4_leadsInside 39 = .ok (.iconst 1, 1) := by decide +kernel
theorem dX4_leadsInside_40 : decode cX4_leadsInside 40 = .ok (.ireturn, 1) := by decide +kernel
theorem dX4_leadsInside_41 : decode cX4_leadsInside 41 = .ok (.iinc 3 1, 3) := by decide +kernel
theorem dX4_leadsInside_44 : decode cX4_leadsInside 44 = .ok (.goto (-42), 3) := by decide +kernel
theorem dX4_leadsInside_47 : decode cX4_leadsInside 47 = .ok (.iconst 0, 1) := by decide +kernel
theorem dX4_leadsInside_48 : decode cX4_leadsInside 48 = .ok (.ireturn, 1) := by decide +kernel
theorem dX5_init_0 : decode cX5_init 0 = .ok (.aload_n 0, 1) := by decide +kernel
theorem dX5_init_1 : decode cX5_init 1 = .ok (.invokespecial 3, 3) := by decide +kernel
theorem dX5_init_4 : decode cX5_init 4 = .ok (.aload_n 0, 1) := by decide +kernel
theorem dX5_init_5 : decode cX5_init 5 = .ok (.bipush 24, 2) := by decide +kernel
theorem dX5_init_7 : decode cX5_init 7 = .ok (.iconst 4, 1) := by decide +kernel
theorem dX5_init_8 : decode cX5_init 8 = .ok (.multianewarray 11 2, 4) := by decide +kernel
theorem dX5_init_12 : decode cX5_init 12 = .ok (.putfield 13, 3) := by decide +kernel
theorem dX5_init_15 : decode cX5_init 15 = .ok (.aload_n 0, 1) := by decide +kernel
theorem dX5_init_16 : decode cX5_init 16 = .ok (.bipush 12, 2) := by decide +kernel
theorem dX5_init_18 : decode cX5_init 18 = .ok (.newarray .int, 2) := by decide +kernel
theorem dX5_init_20 : decode cX5_init 20 = .ok (.putfield 16, 3) := by decide +kernel
theorem dX5_init_23 : decode cX5_init 23 = .ok (.aload_n 0, 1) := by decide +kernel
theorem dX5_init_24 : decode cX5_init 24 = .ok (.bipush 12, 2) := by decide +kernel
theorem dX5_init_26 : decode cX5_init 26 = .ok (.newarray .int, 2) := by decide +kernel
theorem dX5_init_28 : decode cX5_init 28 = .ok (.putfield 20, 3) := by decide +kernel
theorem dX5_init_31 : decode cX5_init 31 = .ok (.aload_n 0, 1) := by decide +kernel
theorem dX5_init_32 : decode cX5_init 32 = .ok (.bipush 12, 2) := by decide +kernel
theorem dX5_init_34 : decode cX5_init 34 = .ok (.newarray .int, 2) := by decide +kernel
theorem dX5_init_36 : decode cX5_init 36 = .ok (.putfield 23, 3) := by decide +kernel
theorem dX5_init_39 : decode cX5_init 39 = .ok (.aload_n 0, 1) := by decide +kernel
theorem dX5_init_40 : decode cX5_init 40 = .ok (.bipush 12, 2) := by decide +kernel
theorem dX5_init_42 : decode cX5_init 42 = .ok (.newarray .int, 2) := by decide +kernel
theorem dX5_init_44 : decode cX5_init 44 = .ok (.putfield 26, 3) := by decide +kernel
theorem dX5_init_47 : decode cX5_init 47 = .ok (.aload_n 0, 1) := by decide +kernel
theorem dX5_init_48 : decode cX5_init 48 = .ok (.bipush 12, 2) := by decide +kernel
theorem dX5_init_50 : decode cX5_init 50 = .ok (.newarray .int, 2) := by decide +kernel
theorem dX5_init_52 : decode cX5_init 52 = .ok (.putfield 29, 3) := by decide +kernel
theorem dX5_init_55 : decode cX5_init 55 = .ok (.return_, 1) := by decide +kernel
theorem dX5_forget_0 : decode cX5_forget 0 = .ok (.aload_n 0, 1) := by decide +kernel
theorem dX5_forget_1 : decode cX5_forget 1 = .ok (.iconst 0, 1) := by decide +kernel
theorem dX5_forget_2 : decode cX5_forget 2 = .ok (.putfield 32, 3) := by decide +kernel
theorem dX5_forget_5 : decode cX5_forget 5 = .ok (.return_, 1) := by decide +kernel
theorem dX5_answer_0 : decode cX5_answer 0 = .ok (.iload_n 3, 1) := by decide +kernel
theorem dX5_answer_1 : decode cX5_answer 1 = .ok (.ifCond .lt 29, 3) := by decide +kernel
theorem dX5_answer_4 : decode cX5_answer 4 = .ok (.iload_n 3, 1) := by decide +kernel
theorem dX5_answer_5 : decode cX5_answer 5 = .ok (.bipush 24, 2) := by decide +kernel
theorem dX5_answer_7 : decode cX5_answer 7 = .ok (.if_icmp .ge 23, 3) := by decide +kernel
theorem dX5_answer_10 : decode cX5_answer 10 = .ok (.iload 4, 2) := by decide +kernel
theorem dX5_answer_12 : decode cX5_answer 12 = .ok (.ifCond .lt 18, 3) := by decide +kernel
theorem dX5_answer_15 : decode cX5_answer 15 = .ok (.iload 4, 2) := by decide +kernel
theorem dX5_answer_17 : decode cX5_answer 17 = .ok (.iconst 4, 1) := by decide +kernel
theorem dX5_answer_18 : decode cX5_answer 18 = .ok (.if_icmp .ge 12, 3) := by decide +kernel
theorem dX5_answer_21 : decode cX5_answer 21 = .ok (.aload_n 1, 1) := by decide +kernel
theorem dX5_answer_22 : decode cX5_answer 22 = .ok (.getfield 36, 3) := by decide +kernel
theorem dX5_answer_25 : decode cX5_answer 25 = .ok (.bipush 12, 2) := by decide +kernel
theorem dX5_answer_27 : decode cX5_answer 27 = .ok (.if_icmp .le 6, 3) := by decide +kernel
theorem dX5_answer_30 : decode cX5_answer 30 = .ok (.bipush (-2), 2) := by decide +kernel
theorem dX5_answer_32 : decode cX5_answer 32 = .ok (.ireturn, 1) := by decide +kernel
theorem dX5_answer_33 : decode cX5_answer 33 = .ok (.aload_n 0, 1) := by decide +kernel
theorem dX5_answer_34 : decode cX5_answer 34 = .ok (.getfield 32, 3) := by decide +kernel
theorem dX5_answer_37 : decode cX5_answer 37 = .ok (.iload_n 3, 1) := by decide +kernel
theorem dX5_answer_38 : decode cX5_answer 38 = .ok (.invokestatic 41, 3) := by decide +kernel
theorem dX5_answer_41 : decode cX5_answer 41 = .ok (.ifCond .ne 36, 3) := by decide +kernel
theorem dX5_answer_44 : decode cX5_answer 44 = .ok (.aload_n 0, 1) := by decide +kernel
theorem dX5_answer_45 : decode cX5_answer 45 = .ok (.aload_n 1, 1) := by decide +kernel
theorem dX5_answer_46 : decode cX5_answer 46 = .ok (.invokevirtual 45, 3) := by decide +kernel
theorem dX5_answer_49 : decode cX5_answer 49 = .ok (.aload_n 0, 1) := by decide +kernel
theorem dX5_answer_50 : decode cX5_answer 50 = .ok (.aload_n 2, 1) := by decide +kernel
theorem dX5_answer_51 : decode cX5_answer 51 = .ok (.iload_n 3, 1) := by decide +kernel
theorem dX5_answer_52 : decode cX5_answer 52 = .ok (.invokevirtual 49, 3) := by decide +kernel
theorem dX5_answer_55 : decode cX5_answer 55 = .ok (.aload_n 0, 1) := by decide +kernel
theorem dX5_answer_56 : decode cX5_answer 56 = .ok (.aload_n 0, 1) := by decide +kernel
theorem dX5_answer_57 : decode cX5_answer 57 = .ok (.getfield 13, 3) := by decide +kernel
theorem dX5_answer_60 : decode cX5_answer 60 = .ok (.iload_n 3, 1) := by decide +kernel
theorem dX5_answer_61 : decode cX5_answer 61 = .ok (.aaload, 1) := by decide +kernel
theorem dX5_answer_62 : decode cX5_answer 62 = .ok (.invokevirtual 53, 3) := by decide +kernel
theorem dX5_answer_65 : decode cX5_answer 65 = .ok (.aload_n 0, 1) := by decide +kernel
theorem dX5_answer_66 : decode cX5_answer 66 = .ok (.dup, 1) := by decide +kernel
theorem dX5_answer_67 : decode cX5_answer 67 = .ok (.getfield 32, 3) := by decide +kernel
theorem dX5_answer_70 : decode cX5_answer 70 = .ok (.iconst 1, 1) := by decide +kernel
theorem dX5_answer_71 : decode cX5_answer 71 = .ok (.iload_n 3, 1) := by decide +kernel
theorem dX5_answer_72 : decode cX5_answer 72 = .ok (.ishl, 1) := by decide +kernel
theorem dX5_answer_73 : decode cX5_answer 73 = .ok (.ior, 1) := by decide +kernel
theorem dX5_answer_74 : decode cX5_answer 74 = .ok (.putfield 32, 3) := by decide +kernel
theorem dX5_answer_77 : decode cX5_answer 77 = .ok (.aload_n 0, 1) := by decide +kernel
theorem dX5_answer_78 : decode cX5_answer 78 = .ok (.getfield 13, 3) := by decide +kernel
theorem dX5_answer_81 : decode cX5_answer 81 = .ok (.iload_n 3, 1) := by decide +kernel
theorem dX5_answer_82 : decode cX5_answer 82 = .ok (.aaload, 1) := by decide +kernel
theorem dX5_answer_83 : decode cX5_answer 83 = .ok (.iload 4, 2) := by decide +kernel
theorem dX5_answer_85 : decode cX5_answer 85 = .ok (.iaload, 1) := by decide +kernel
theorem dX5_answer_86 : decode cX5_answer 86 = .ok (.ireturn, 1) := by decide +kernel
theorem dX5_takeGraph_0 : decode cX5_takeGraph 0 = .ok (.aload_n 0, 1) := by decide +kernel
theorem dX5_takeGraph_1 : decode cX5_takeGraph 1 = .ok (.aload_n 1, 1) := by decide +kernel
theorem dX5_takeGraph_2 : decode cX5_takeGraph 2 = .ok (.getfield 36, 3) := by decide +kernel
theorem dX5_takeGraph_5 : decode cX5_takeGraph 5 = .ok (.putfield 57, 3) := by decide +kernel
theorem dX5_takeGraph_8 : decode cX5_takeGraph 8 = .ok (.aload_n 0, 1) := by decide +kernel
theorem dX5_takeGraph_9 : decode cX5_takeGraph 9 = .ok (.iconst 0, 1) := by decide +kernel
theorem dX5_takeGraph_10 : decode cX5_takeGraph 10 = .ok (.putfield 58, 3) := by decide +kernel
theorem dX5_takeGraph_13 : decode cX5_takeGraph 13 = .ok (.aload_n 0, 1) := by decide +kernel
theorem dX5_takeGraph_14 : decode cX5_takeGraph 14 = .ok (.getfield 23, 3) := by decide +kernel
theorem dX5_takeGraph_17 : decode cX5_takeGraph 17 = .ok (.iconst 0, 1) := by decide +kernel
theorem dX5_takeGraph_18 : decode cX5_takeGraph 18 = .ok (.invokestatic 61, 3) := by decide +kernel
theorem dX5_takeGraph_21 : decode cX5_takeGraph 21 = .ok (.iconst 0, 1) := by decide +kernel
theorem dX5_takeGraph_22 : decode cX5_takeGraph 22 = .ok (.istore_n 2, 1) := by decide +kernel
theorem dX5_takeGraph_23 : decode cX5_takeGraph 23 = .ok (.iload_n 2, 1) := by decide +kernel
theorem dX5_takeGraph_24 : decode cX5_takeGraph 24 = .ok (.aload_n 0, 1) := by decide +kernel
theorem dX5_takeGraph_25 : decode cX5_takeGraph 25 = .ok (.getfield 57, 3) := by decide +kernel
theorem dX5_takeGraph_28 : decode cX5_takeGraph 28 = .ok (.if_icmp .ge 85, 3) := by decide +kernel
theorem dX5_takeGraph_31 : decode cX5_takeGraph 31 = .ok (.aload_n 0, 1) := by decide +kernel
theorem dX5_takeGraph_32 : decode cX5_takeGraph 32 = .ok (.getfield 16, 3) := by decide +kernel
theorem dX5_takeGraph_35 : decode cX5_takeGraph 35 = .ok (.iload_n 2, 1) := by decide +kernel
theorem dX5_takeGraph_36 : decode cX5_takeGraph 36 = .ok (.aload_n 1, 1) := by decide +kernel
theorem dX5_takeGraph_37 : decode cX5_takeGraph 37 = .ok (.getfield 67, 3) := by decide +kernel
theorem dX5_takeGraph_40 : decode cX5_takeGraph 40 = .ok (.iload_n 2, 1) := by decide +kernel
theorem dX5_takeGraph_41 : decode cX5_takeGraph 41 = .ok (.iaload, 1) := by decide +kernel
theorem dX5_takeGraph_42 : decode cX5_takeGraph 42 = .ok (.iastore, 1) := by decide +kernel
theorem dX5_takeGraph_43 : decode cX5_takeGraph 43 = .ok (.aload_n 0, 1) := by decide +kernel
theorem dX5_takeGraph_44 : decode cX5_takeGraph 44 = .ok (.getfield 20, 3) := by decide +kernel
theorem dX5_takeGraph_47 : decode cX5_takeGraph 47 = .ok (.iload_n 2, 1) := by decide +kernel
theorem dX5_takeGraph_48 : decode cX5_takeGraph 48 = .ok (.aload_n 1, 1) := by decide +kernel
theorem dX5_takeGraph_49 : decode cX5_takeGraph 49 = .ok (.getfield 70, 3) := by decide +kernel
theorem dX5_takeGraph_52 : decode cX5_takeGraph 52 = .ok (.iload_n 2, 1) := by decide +kernel
theorem dX5_takeGraph_53 : decode cX5_takeGraph 53 = .ok (.iaload, 1) := by decide +kernel
theorem dX5_takeGraph_54 : decode cX5_takeGraph 54 = .ok (.iastore, 1) := by decide +kernel
theorem dX5_takeGraph_55 : decode cX5_takeGraph 55 = .ok (.aload_n 0, 1) := by decide +kernel
theorem dX5_takeGraph_56 : decode cX5_takeGraph 56 = .ok (.getfield 26, 3) := by decide +kernel
theorem dX5_takeGraph_59 : decode cX5_takeGraph 59 = .ok (.iload_n 2, 1) := by decide +kernel
theorem dX5_takeGraph_60 : decode cX5_takeGraph 60 = .ok (.aload_n 0, 1) := by decide +kernel
theorem dX5_takeGraph_61 : decode cX5_takeGraph 61 = .ok (.aload_n 0, 1) := by decide +kernel
theorem dX5_takeGraph_62 : decode cX5_takeGraph 62 = .ok (.getfield 16, 3) := by decide +kernel
theorem dX5_takeGraph_65 : decode cX5_takeGraph 65 = .ok (.iload_n 2, 1) := by decide +kernel
theorem dX5_takeGraph_66 : decode cX5_takeGraph 66 = .ok (.iaload, 1) := by decide +kernel
theorem dX5_takeGraph_67 : decode cX5_takeGraph 67 = .ok (.invokevirtual 73, 3) := by decide +kernel
theorem dX5_takeGraph_70 : decode cX5_takeGraph 70 = .ok (.aload_n 0, 1) := by decide +kernel
theorem dX5_takeGraph_71 : decode cX5_takeGraph 71 = .ok (.aload_n 0, 1) := by decide +kernel
theorem dX5_takeGraph_72 : decode cX5_takeGraph 72 = .ok (.getfield 20, 3) := by decide +kernel
theorem dX5_takeGraph_75 : decode cX5_takeGraph 75 = .ok (.iload_n 2, 1) := by decide +kernel
theorem dX5_takeGraph_76 : decode cX5_takeGraph 76 = .ok (.iaload, 1) := by decide +kernel
theorem dX5_takeGraph_77 : decode cX5_takeGraph 77 = .ok (.invokevirtual 73, 3) := by decide +kernel
theorem dX5_takeGraph_80 : decode cX5_takeGraph 80 = .ok (.ior, 1) := by decide +kernel
theorem dX5_takeGraph_81 : decode cX5_takeGraph 81 = .ok (.iastore, 1) := by decide +kernel
theorem dX5_takeGraph_82 : decode cX5_takeGraph 82 = .ok (.aload_n 0, 1) := by decide +kernel
theorem dX5_takeGraph_83 : decode cX5_takeGraph 83 = .ok (.dup, 1) := by decide +kernel
theorem dX5_takeGraph_84 : decode cX5_takeGraph 84 = .ok (.getfield 58, 3) := by decide +kernel
theorem dX5_takeGraph_87 : decode cX5_takeGraph 87 = .ok (.aload_n 0, 1) := by decide +kernel
theorem dX5_takeGraph_88 : decode cX5_takeGraph 88 = .ok (.getfield 26, 3) := by decide +kernel
theorem dX5_takeGraph_91 : decode cX5_takeGraph 91 = .ok (.iload_n 2, 1) := by decide +kernel
theorem dX5_takeGraph_92 : decode cX5_takeGraph 92 = .ok (.iaload, 1) := by decide +kernel
theorem dX5_takeGraph_93 : decode cX5_takeGraph 93 = .ok (.ifCond .ne 9, 3) := by decide +kernel
theorem dX5_takeGraph_96 : decode cX5_takeGraph 96 = .ok (.iconst 1, 1) := by decide +kernel
theorem dX5_takeGraph_97 : decode cX5_takeGraph 97 = .ok (.iload_n 2, 1) := by decide +kernel
theorem dX5_takeGraph_98 : decode cX5_takeGraph 98 = .ok (.ishl, 1) := by decide +kernel
theorem dX5_takeGraph_99 : decode cX5_takeGraph 99 = .ok (.goto 4, 3) := by decide +kernel
theorem dX5_takeGraph_102 : decode cX5_takeGraph 102 = .ok (.iconst 0, 1) := by decide +kernel
theorem dX5_takeGraph_103 : decode cX5_takeGraph 103 = .ok (.ior, 1) := by decide +kernel
theorem dX5_takeGraph_104 : decode cX5_takeGraph 104 = .ok (.putfield 58, 3) := by decide +kernel
theorem dX5_takeGraph_107 : decode cX5_takeGraph 107 = .ok (.iinc 2 1, 3) := by decide +kernel
theorem dX5_takeGraph_110 : decode cX5_takeGraph 110 = .ok (.goto (-87), 3) := by decide +kernel
theorem dX5_takeGraph_113 : decode cX5_takeGraph 113 = .ok (.iconst 0, 1) := by decide +kernel
theorem dX5_takeGraph_114 : decode cX5_takeGraph 114 = .ok (.istore_n 2, 1) := by decide +kernel
theorem dX5_takeGraph_115 : decode cX5_takeGraph 115 = .ok (.iload_n 2, 1) := by decide +kernel
theorem dX5_takeGraph_116 : decode cX5_takeGraph 116 = .ok (.aload_n 0, 1) := by decide +kernel
theorem dX5_takeGraph_117 : decode cX5_takeGraph 117 = .ok (.getfield 57, 3) := by decide +kernel
theorem dX5_takeGraph_120 : decode cX5_takeGraph 120 = .ok (.if_icmp .ge 46, 3) := by decide +kernel
theorem dX5_takeGraph_123 : decode cX5_takeGraph 123 = .ok (.iconst 0, 1) := by decide +kernel
theorem dX5_takeGraph_124 : decode cX5_takeGraph 124 = .ok (.istore_n 3, 1) := by decide +kernel
theorem dX5_takeGraph_125 : decode cX5_takeGraph 125 = .ok (.iload_n 3, 1) := by decide +kernel
theorem dX5_takeGraph_126 : decode cX5_takeGraph 126 = .ok (.aload_n 0, 1) := by decide +kernel
theorem dX5_takeGraph_127 : decode cX5_takeGraph 127 = .ok (.getfield 57, 3) := by decide +kernel
theorem dX5_takeGraph_130 : decode cX5_takeGraph 130 = .ok (.if_icmp .ge 30, 3) := by decide +kernel
theorem dX5_takeGraph_133 : decode cX5_takeGraph 133 = .ok (.aload_n 0, 1) := by decide +kernel
theorem dX5_takeGraph_134 : decode cX5_takeGraph 134 = .ok (.getfield 23, 3) := by decide +kernel
theorem dX5_takeGraph_137 : decode cX5_takeGraph 137 = .ok (.iload_n 3, 1) := by decide +kernel
theorem dX5_takeGraph_138 : decode cX5_takeGraph 138 = .ok (.dup2, 1) := by decide +kernel
theorem dX5_takeGraph_139 : decode cX5_takeGraph 139 = .ok (.iaload, 1) := by decide +kernel
theorem dX5_takeGraph_140 : decode cX5_takeGraph 140 = .ok (.aload_n 0, 1) := by decide +kernel
theorem dX5_takeGraph_141 : decode cX5_takeGraph 141 = .ok (.getfield 26, 3) := by decide +kernel
theorem dX5_takeGraph_144 : decode cX5_takeGraph 144 = .ok (.iload_n 2, 1) := by decide +kernel
theorem dX5_takeGraph_145 : decode cX5_takeGraph 145 = .ok (.iaload, 1) := by decide +kernel
theorem dX5_takeGraph_146 : decode cX5_takeGraph 146 = .ok (.iload_n 3, 1) := by decide +kernel
theorem dX5_takeGraph_147 : decode cX5_takeGraph 147 = .ok (.invokestatic 41, 3) := by decide +kernel
theorem dX5_takeGraph_150 : decode cX5_takeGraph 150 = .ok (.iload_n 2, 1) := by decide +kernel
theorem dX5_takeGraph_151 : decode cX5_takeGraph 151 = .ok (.ishl, 1) := by decide +kernel
theorem dX5_takeGraph_152 : decode cX5_takeGraph 152 = .ok (.ior, 1) := by decide +kernel
theorem dX5_takeGraph_153 : decode cX5_takeGraph 153 = .ok (.iastore, 1) := by decide +kernel
theorem dX5_takeGraph_154 : decode cX5_takeGraph 154 = .ok (.iinc 3 1, 3) := by decide +kernel
theorem dX5_takeGraph_157 : decode cX5_takeGraph 157 = .ok (.goto (-32), 3) := by decide +kernel
theorem dX5_takeGraph_160 : decode cX5_takeGraph 160 = .ok (.iinc 2 1, 3) := by decide +kernel
theorem dX5_takeGraph_163 : decode cX5_takeGraph 163 = .ok (.goto (-48), 3) := by decide +kernel
theorem dX5_takeGraph_166 : decode cX5_takeGraph 166 = .ok (.return_, 1) := by decide +kernel
theorem dX5_nodeBit_0 : decode cX5_nodeBit 0 = .ok (.iload_n 1, 1) := by decide +kernel
theorem dX5_nodeBit_1 : decode cX5_nodeBit 1 = .ok (.ifCond .lt 17, 3) := by decide +kernel
theorem dX5_nodeBit_4 : decode cX5_nodeBit 4 = .ok (.iload_n 1, 1) := by decide +kernel
theorem dX5_nodeBit_5 : decode cX5_nodeBit 5 = .ok (.aload_n 0, 1) := by decide +kernel
theorem dX5_nodeBit_6 : decode cX5_nodeBit 6 = .ok (.getfield 57, 3) := by decide +kernel
theorem dX5_nodeBit_9 : decode cX5_nodeBit 9 = .ok (.if_icmp .ge 9, 3) := by decide +kernel
theorem dX5_nodeBit_12 : decode cX5_nodeBit 12 = .ok (.iconst 1, 1) := by decide +kernel
theorem dX5_nodeBit_13 : decode cX5_nodeBit 13 = .ok (.iload_n 1, 1) := by decide +kernel
theorem dX5_nodeBit_14 : decode cX5_nodeBit 14 = .ok (.ishl, 1) := by decide +kernel
theorem dX5_nodeBit_15 : decode cX5_nodeBit 15 = .ok (.goto 4, 3) := by decide +kernel
theorem dX5_nodeBit_18 : decode cX5_nodeBit 18 = .ok (.iconst 0, 1) := by decide +kernel
theorem dX5_nodeBit_19 : decode cX5_nodeBit 19 = .ok (.ireturn, 1) := by decide +kernel
theorem dX5_takeFacts_0 : decode cX5_takeFacts 0 = .ok (.aload_n 0, 1) := by decide +kernel
theorem dX5_takeFacts_1 : decode cX5_takeFacts 1 = .ok (.aload_n 0, 1) := by decide +kernel
theorem dX5_takeFacts_2 : decode cX5_takeFacts 2 = .ok (.aload_n 1, 1) := by decide +kernel
theorem dX5_takeFacts_3 : decode cX5_takeFacts 3 = .ok (.getfield 77, 3) := by decide +kernel
theorem dX5_takeFacts_6 : decode cX5_takeFacts 6 = .ok (.iload_n 2, 1) := by decide +kernel
theorem dX5_takeFacts_7 : decode cX5_takeFacts 7 = .ok (.invokevirtual 82, 3) := by decide +kernel
theorem dX5_takeFacts_10 : decode cX5_takeFacts 10 = .ok (.putfield 86, 3) := by decide +kernel
theorem dX5_takeFacts_13 : decode cX5_takeFacts 13 = .ok (.aload_n 0, 1) := by decide +kernel
theorem dX5_takeFacts_14 : decode cX5_takeFacts 14 = .ok (.aload_n 0, 1) := by decide +kernel
theorem dX5_takeFacts_15 : decode cX5_takeFacts 15 = .ok (.aload_n 1, 1) := by decide +kernel
theorem dX5_takeFacts_16 : decode cX5_takeFacts 16 = .ok (.getfield 88, 3) := by decide +kernel
theorem dX5_takeFacts_19 : decode cX5_takeFacts 19 = .ok (.iload_n 2, 1) := by decide +kernel
theorem dX5_takeFacts_20 : decode cX5_takeFacts 20 = .ok (.invokevirtual 82, 3) := by decide +kernel
theorem dX5_takeFacts_23 : decode cX5_takeFacts 23 = .ok (.putfield 91, 3) := by decide +kernel
theorem dX5_takeFacts_26 : decode cX5_takeFacts 26 = .ok (.aload_n 0, 1) := by decide +kernel
theorem dX5_takeFacts_27 : decode cX5_takeFacts 27 = .ok (.aload_n 0, 1) := by decide +kernel
theorem dX5_takeFacts_28 : decode cX5_takeFacts 28 = .ok (.aload_n 1, 1) := by decide +kernel
theorem dX5_takeFacts_29 : decode cX5_takeFacts 29 = .ok (.getfield 93, 3) := by decide +kernel
theorem dX5_takeFacts_32 : decode cX5_takeFacts 32 = .ok (.iload_n 2, 1) := by decide +kernel
theorem dX5_takeFacts_33 : decode cX5_takeFacts 33 = .ok (.invokevirtual 82, 3) := by decide +kernel
theorem dX5_takeFacts_36 : decode cX5_takeFacts 36 = .ok (.putfield 96, 3) := by decide +kernel
theorem dX5_takeFacts_39 : decode cX5_takeFacts 39 = .ok (.aload_n 0, 1) := by decide +kernel
theorem dX5_takeFacts_40 : decode cX5_takeFacts 40 = .ok (.aload_n 0, 1) := by decide +kernel
theorem dX5_takeFacts_41 : decode cX5_takeFacts 41 = .ok (.aload_n 1, 1) := by decide +kernel
theorem dX5_takeFacts_42 : decode cX5_takeFacts 42 = .ok (.getfield 98, 3) := by decide +kernel
theorem dX5_takeFacts_45 : decode cX5_takeFacts 45 = .ok (.iload_n 2, 1) := by decide +kernel
theorem dX5_takeFacts_46 : decode cX5_takeFacts 46 = .ok (.invokevirtual 82, 3) := by decide +kernel
theorem dX5_takeFacts_49 : decode cX5_takeFacts 49 = .ok (.putfield 101, 3) := by decide +kernel
theorem dX5_takeFacts_52 : decode cX5_takeFacts 52 = .ok (.return_, 1) := by decide +kernel
theorem dX5_column_0 : decode cX5_column 0 = .ok (.iconst 0, 1) := by decide +kernel
theorem dX5_column_1 : decode cX5_column 1 = .ok (.istore_n 3, 1) := by decide +kernel
theorem dX5_column_2 : decode cX5_column 2 = .ok (.iconst 0, 1) := by decide +kernel
theorem dX5_column_3 : decode cX5_column 3 = .ok (.istore 4, 2) := by decide +kernel
theorem dX5_column_5 : decode cX5_column 5 = .ok (.iload 4, 2) := by decide +kernel
theorem dX5_column_7 : decode cX5_column 7 = .ok (.aload_n 0, 1) := by decide +kernel
theorem dX5_column_8 : decode cX5_column 8 = .ok (.getfield 57, 3) := by decide +kernel
theorem dX5_column_11 : decode cX5_column 11 = .ok (.if_icmp .ge 23, 3) := by decide +kernel
theorem dX5_column_14 : decode cX5_column 14 = .ok (.iload_n 3, 1) := by decide +kernel
theorem dX5_column_15 : decode cX5_column 15 = .ok (.aload_n 1, 1) := by decide +kernel
theorem dX5_column_16 : decode cX5_column 16 = .ok (.iload 4, 2) := by decide +kernel
theorem dX5_column_18 : decode cX5_column 18 = .ok (.iaload, 1) := by decide +kernel
theorem dX5_column_19 : decode cX5_column 19 = .ok (.iload_n 2, 1) := by decide +kernel
theorem dX5_column_20 : decode cX5_column 20 = .ok (.invokestatic 41, 3) := by decide +kernel
theorem dX5_column_23 : decode cX5_column 23 = .ok (.iload 4, 2) := by decide +kernel
theorem dX5_column_25 : decode cX5_column 25 = .ok (.ishl, 1) := by decide +kernel
theorem dX5_column_26 : decode cX5_column 26 = .ok (.ior, 1) := by decide +kernel
theorem dX5_column_27 : decode cX5_column 27 = .ok (.istore_n 3, 1) := by decide +kernel
theorem dX5_column_28 : decode cX5_column 28 = .ok (.iinc 4 1, 3) := by decide +kernel
theorem dX5_column_31 : decode cX5_column 31 = .ok (.goto (-26), 3) := by decide +kernel
theorem dX5_column_34 : decode cX5_column 34 = .ok (.iload_n 3, 1) := by decide +kernel
theorem dX5_column_35 : decode cX5_column 35 = .ok (.ireturn, 1) := by decide +kernel
theorem dX5_tryAll_0 : decode cX5_tryAll 0 = .ok (.iconst 0, 1) := by decide +kernel
theorem dX5_tryAll_1 : decode cX5_tryAll 1 = .ok (.istore_n 2, 1) := by decide +kernel
theorem dX5_tryAll_2 : decode cX5_tryAll 2 = .ok (.iconst 0, 1) := by decide +kernel
theorem dX5_tryAll_3 : decode cX5_tryAll 3 = .ok (.istore_n 3, 1) := by decide +kernel
theorem dX5_tryAll_4 : decode cX5_tryAll 4 = .ok (.iconst (-1), 1) := by decide +kernel
theorem dX5_tryAll_5 : decode cX5_tryAll 5 = .ok (.istore 4, 2) := by decide +kernel
theorem dX5_tryAll_7 : decode cX5_tryAll 7 = .ok (.iconst (-1), 1) := by decide +kernel
theorem dX5_tryAll_8 : decode cX5_tryAll 8 = .ok (.istore 5, 2) := by decide +kernel
theorem dX5_tryAll_10 : decode cX5_tryAll 10 = .ok (.iconst 0, 1) := by decide +kernel
theorem dX5_tryAll_11 : decode cX5_tryAll 11 = .ok (.istore 6, 2) := by decide +kernel
theorem dX5_tryAll_13 : decode cX5_tryAll 13 = .ok (.iload 6, 2) := by decide +kernel
theorem dX5_tryAll_15 : decode cX5_tryAll 15 = .ok (.iconst 1, 1) := by decide +kernel
theorem dX5_tryAll_16 : decode cX5_tryAll 16 = .ok (.aload_n 0, 1) := by decide +kernel
theorem dX5_tryAll_17 : decode cX5_tryAll 17 = .ok (.getfield 57, 3) := by decide +kernel
theorem dX5_tryAll_20 : decode cX5_tryAll 20 = .ok (.ishl, 1) := by decide +kernel
theorem dX5_tryAll_21 : decode cX5_tryAll 21 = .ok (.if_icmp .ge 70, 3) := by decide +kernel
theorem dX5_tryAll_24 : decode cX5_tryAll 24 = .ok (.iload 6, 2) := by decide +kernel
theorem dX5_tryAll_26 : decode cX5_tryAll 26 = .ok (.aload_n 0, 1) := by decide +kernel
theorem dX5_tryAll_27 : decode cX5_tryAll 27 = .ok (.getfield 96, 3) := by decide +kernel
theorem dX5_tryAll_30 : decode cX5_tryAll 30 = .ok (.iconst (-1), 1) := by decide +kernel
theorem dX5_tryAll_31 : decode cX5_tryAll 31 = .ok (.ixor, 1) := by decide +kernel
theorem dX5_tryAll_32 : decode cX5_tryAll 32 = .ok (.iand, 1) := by decide +kernel
theorem dX5_tryAll_33 : decode cX5_tryAll 33 = .ok (.ifCond .ne 52, 3) := by decide +kernel
theorem dX5_tryAll_36 : decode cX5_tryAll 36 = .ok (.aload_n 0, 1) := by decide +kernel
theorem dX5_tryAll_37 : decode cX5_tryAll 37 = .ok (.iload 6, 2) := by decide +kernel
theorem dX5_tryAll_39 : decode cX5_tryAll 39 = .ok (.invokevirtual 103, 3) := by decide +kernel
theorem dX5_tryAll_42 : decode cX5_tryAll 42 = .ok (.ifCond .eq 43, 3) := by decide +kernel
theorem dX5_tryAll_45 : decode cX5_tryAll 45 = .ok (.iinc 2 1, 3) := by decide +kernel
theorem dX5_tryAll_48 : decode cX5_tryAll 48 = .ok (.aload_n 0, 1) := by decide +kernel
theorem dX5_tryAll_49 : decode cX5_tryAll 49 = .ok (.iload 6, 2) := by decide +kernel
theorem dX5_tryAll_51 : decode cX5_tryAll 51 = .ok (.invokevirtual 107, 3) := by decide +kernel
theorem dX5_tryAll_54 : decode cX5_tryAll 54 = .ok (.ifCond .eq 31, 3) := by decide +kernel
theorem dX5_tryAll_57 : decode cX5_tryAll 57 = .ok (.iinc 3 1, 3) := by decide +kernel
theorem dX5_tryAll_60 : decode cX5_tryAll 60 = .ok (.iload 4, 2) := by decide +kernel
theorem dX5_tryAll_62 : decode cX5_tryAll 62 = .ok (.aload_n 0, 1) := by decide +kernel
theorem dX5_tryAll_63 : decode cX5_tryAll 63 = .ok (.iload 6, 2) := by decide +kernel
theorem dX5_tryAll_65 : decode cX5_tryAll 65 = .ok (.invokevirtual 110, 3) := by decide +kernel
theorem dX5_tryAll_68 : decode cX5_tryAll 68 = .ok (.invokestatic 113, 3) := by decide +kernel
theorem dX5_tryAll_71 : decode cX5_tryAll 71 = .ok (.istore 4, 2) := by decide +kernel
theorem dX5_tryAll_73 : decode cX5_tryAll 73 = .ok (.iload 5, 2) := by decide +kernel
theorem dX5_tryAll_75 : decode cX5_tryAll 75 = .ok (.iload 6, 2) := by decide +kernel
theorem dX5_tryAll_77 : decode cX5_tryAll 77 = .ok (.invokestatic 116, 3) := by decide +kernel
theorem dX5_tryAll_80 : decode cX5_tryAll 80 = .ok (.invokestatic 113, 3) := by decide +kernel
theorem dX5_tryAll_83 : decode cX5_tryAll 83 = .ok (.istore 5, 2) := by decide +kernel
theorem dX5_tryAll_85 : decode cX5_tryAll 85 = .ok (.iinc 6 1, 3) := by decide +kernel
theorem dX5_tryAll_88 : decode cX5_tryAll 88 = .ok (.goto (-75), 3) := by decide +kernel
theorem dX5_tryAll_91 : decode cX5_tryAll 91 = .ok (.aload_n 1, 1) := by decide +kernel
theorem dX5_tryAll_92 : decode cX5_tryAll 92 = .ok (.iconst 0, 1) := by decide +kernel
theorem dX5_tryAll_93 : decode cX5_tryAll 93 = .ok (.iload_n 2, 1) := by decide +kernel
theorem dX5_tryAll_94 : decode cX5_tryAll 94 = .ok (.iastore, 1) := by decide +kernel
theorem dX5_tryAll_95 : decode cX5_tryAll 95 = .ok (.aload_n 1, 1) := by decide +kernel
theorem dX5_tryAll_96 : decode cX5_tryAll 96 = .ok (.iconst 1, 1) := by decide +kernel
theorem dX5_tryAll_97 : decode cX5_tryAll 97 = .ok (.iload_n 3, 1) := by decide +kernel
theorem dX5_tryAll_98 : decode cX5_tryAll 98 = .ok (.iastore, 1) := by decide +kernel
theorem dX5_tryAll_99 : decode cX5_tryAll 99 = .ok (.aload_n 1, 1) := by decide +kernel
theorem dX5_tryAll_100 : decode cX5_tryAll 100 = .ok (.iconst 2, 1) := by decide +kernel
theorem dX5_tryAll_101 : decode cX5_tryAll 101 = .ok (.iload 4, 2) := by decide +kernel
theorem dX5_tryAll_103 : decode cX5_tryAll 103 = .ok (.iastore, 1) := by decide +kernel
theorem dX5_tryAll_104 : decode cX5_tryAll 104 = .ok (.aload_n 1, 1) := by decide +kernel
theorem dX5_tryAll_105 : decode cX5_tryAll 105 = .ok (.iconst 3, 1) := by decide +kernel
theorem dX5_tryAll_106 : decode cX5_tryAll 106 = .ok (.iload 5, 2) := by decide +kernel
theorem dX5_tryAll_108 : decode cX5_tryAll 108 = .ok (.iastore, 1) := by decide +kernel
theorem dX5_tryAll_109 : decode cX5_tryAll 109 = .ok (.return_, 1) := by decide +kernel
theorem dX5_lesser_0 : decode cX5_lesser 0 = .ok (.iload_n 0, 1) := by decide +kernel
theorem dX5_lesser_1 : decode cX5_lesser 1 = .ok (.iconst (-1), 1) := by decide +kernel
theorem dX5_lesser_2 : decode cX5_lesser 2 = .ok (.if_icmp .ne 7, 3) := by decide +kernel
theorem dX5_lesser_5 : decode cX5_lesser 5 = .ok (.iload_n 1, 1) := by decide +kernel
theorem dX5_lesser_6 : decode cX5_lesser 6 = .ok (.goto 8, 3) := by decide +kernel
theorem dX5_lesser_9 : decode cX5_lesser 9 = .ok (.iload_n 0, 1) := by decide +kernel
theorem dX5_lesser_10 : decode cX5_lesser 10 = .ok (.iload_n 1, 1) := by decide +kernel
theorem dX5_lesser_11 : decode cX5_lesser 11 = .ok (.invokestatic 121, 3) := by decide +kernel
theorem dX5_lesser_14 : decode cX5_lesser 14 = .ok (.ireturn, 1) := by decide +kernel
theorem dX5_isRight_0 : decode cX5_isRight 0 = .ok (.iconst 1, 1) := by decide +kernel
theorem dX5_isRight_1 : decode cX5_isRight 1 = .ok (.aload_n 0, 1) := by decide +kernel
theorem dX5_isRight_2 : decode cX5_isRight 2 = .ok (.getfield 57, 3) := by decide +kernel
theorem dX5_isRight_5 : decode cX5_isRight 5 = .ok (.ishl, 1) := by decide +kernel
theorem dX5_isRight_6 : decode cX5_isRight 6 = .ok (.iconst 1, 1) := by decide +kernel
theorem dX5_isRight_7 : decode cX5_isRight 7 = .ok (.isub, 1) := by decide +kernel
theorem dX5_isRight_8 : decode cX5_isRight 8 = .ok (.istore_n 2, 1) := by decide +kernel
theorem dX5_isRight_9 : decode cX5_isRight 9 = .ok (.iconst 1, 1) := by decide +kernel
theorem dX5_isRight_10 : decode cX5_isRight 10 = .ok (.istore_n 3, 1) := by decide +kernel
theorem dX5_isRight_11 : decode cX5_isRight 11 = .ok (.iconst 0, 1) := by decide +kernel
theorem dX5_isRight_12 : decode cX5_isRight 12 = .ok (.istore 4, 2) := by decide +kernel
theorem dX5_isRight_14 : decode cX5_isRight 14 = .ok (.iload_n 3, 1) := by decide +kernel
theorem dX5_isRight_15 : decode cX5_isRight 15 = .ok (.ifCond .eq 103, 3) := by decide +kernel
theorem dX5_isRight_18 : decode cX5_isRight 18 = .ok (.iload 4, 2) := by decide +kernel
theorem dX5_isRight_20 : decode cX5_isRight 20 = .ok (.bipush 12, 2) := by decide +kernel
theorem dX5_isRight_22 : decode cX5_isRight 22 = .ok (.if_icmp .gt 96, 3) := by decide +kernel
theorem dX5_isRight_25 : decode cX5_isRight 25 = .ok (.iload_n 2, 1) := by decide +kernel
theorem dX5_isRight_26 : decode cX5_isRight 26 = .ok (.istore 5, 2) := by decide +kernel
theorem dX5_isRight_28 : decode cX5_isRight 28 = .ok (.iconst 0, 1) := by decide +kernel
theorem dX5_isRight_29 : decode cX5_isRight 29 = .ok (.istore 6, 2) := by decide +kernel
theorem dX5_isRight_31 : decode cX5_isRight 31 = .ok (.iload 6, 2) := by decide +kernel
theorem dX5_isRight_33 : decode cX5_isRight 33 = .ok (.aload_n 0, 1) := by decide +kernel
theorem dX5_isRight_34 : decode cX5_isRight 34 = .ok (.getfield 57, 3) := by decide +kernel
theorem dX5_isRight_37 : decode cX5_isRight 37 = .ok (.if_icmp .ge 63, 3) := by decide +kernel
theorem dX5_isRight_40 : decode cX5_isRight 40 = .ok (.iload 6, 2) := by decide +kernel
theorem dX5_isRight_42 : decode cX5_isRight 42 = .ok (.ifCond .le 26, 3) := by decide +kernel
theorem dX5_isRight_45 : decode cX5_isRight 45 = .ok (.aload_n 0, 1) := by decide +kernel
theorem dX5_isRight_46 : decode cX5_isRight 46 = .ok (.getfield 23, 3) := by decide +kernel
theorem dX5_isRight_49 : decode cX5_isRight 49 = .ok (.iload 6, 2) := by decide +kernel
theorem dX5_isRight_51 : decode cX5_isRight 51 = .ok (.iaload, 1) := by decide +kernel
theorem dX5_isRight_52 : decode cX5_isRight 52 = .ok (.iload_n 2, 1) := by decide +kernel
theorem dX5_isRight_53 : decode cX5_isRight 53 = .ok (.aload_n 0, 1) := by decide +kernel
theorem dX5_isRight_54 : decode cX5_isRight 54 = .ok (.getfield 91, 3) := by decide +kernel
theorem dX5_isRight_57 : decode cX5_isRight 57 = .ok (.iand, 1) := by decide +kernel
theorem dX5_isRight_58 : decode cX5_isRight 58 = .ok (.iconst (-1), 1) := by decide +kernel
theorem dX5_isRight_59 : decode cX5_isRight 59 = .ok (.ixor, 1) := by decide +kernel
theorem dX5_isRight_60 : decode cX5_isRight 60 = .ok (.iand, 1) := by decide +kernel
theorem dX5_isRight_61 : decode cX5_isRight 61 = .ok (.ifCond .ne 7, 3) := by decide +kernel
theorem dX5_isRight_64 : decode cX5_isRight 64 = .ok (.iconst 1, 1) := by decide +kernel
theorem dX5_isRight_65 : decode cX5_isRight 65 = .ok (.goto 4, 3) := by decide +kernel
theorem dX5_isRight_68 : decode cX5_isRight 68 = .ok (.iconst 0, 1) := by decide +kernel
theorem dX5_isRight_69 : decode cX5_isRight 69 = .ok (.istore 7, 2) := by decide +kernel
theorem dX5_isRight_71 : decode cX5_isRight 71 = .ok (.iload 7, 2) := by decide +kernel
theorem dX5_isRight_73 : decode cX5_isRight 73 = .ok (.ifCond .ne 21, 3) := by decide +kernel
theorem dX5_isRight_76 : decode cX5_isRight 76 = .ok (.iload_n 1, 1) := by decide +kernel
theorem dX5_isRight_77 : decode cX5_isRight 77 = .ok (.iload 6, 2) := by decide +kernel
theorem dX5_isRight_79 : decode cX5_isRight 79 = .ok (.invokestatic 41, 3) := by decide +kernel
theorem dX5_isRight_82 : decode cX5_isRight 82 = .ok (.ifCond .ne 12, 3) := by decide +kernel
theorem dX5_isRight_85 : decode cX5_isRight 85 = .ok (.iload_n 2, 1) := by decide +kernel
theorem dX5_isRight_86 : decode cX5_isRight 86 = .ok (.iconst 1, 1) := by decide +kernel
theorem dX5_isRight_87 : decode cX5_isRight 87 = .ok (.iload 6, 2) := by decide +kernel
theorem dX5_isRight_89 : decode cX5_isRight 89 = .ok (.ishl, 1) := by decide +kernel
theorem dX5_isRight_90 : decode cX5_isRight 90 = .ok (.iconst (-1), 1) := by decide +kernel
theorem dX5_isRight_91 : decode cX5_isRight 91 = .ok (.ixor, 1) := by decide +kernel
theorem dX5_isRight_92 : decode cX5_isRight 92 = .ok (.iand, 1) := by decide +kernel
theorem dX5_isRight_93 : decode cX5_isRight 93 = .ok (.istore_n 2, 1) := by decide +kernel
theorem dX5_isRight_94 : decode cX5_isRight 94 = .ok (.iinc 6 1, 3) := by decide +kernel
theorem dX5_isRight_97 : decode cX5_isRight 97 = .ok (.goto (-66), 3) := by decide +kernel
theorem dX5_isRight_100 : decode cX5_isRight 100 = .ok (.iload_n 2, 1) := by decide +kernel
theorem dX5_isRight_101 : decode cX5_isRight 101 = .ok (.iload 5, 2) := by decide +kernel
theorem dX5_isRight_103 : decode cX5_isRight 103 = .ok (.if_icmp .eq 7, 3) := by decide +kernel
theorem dX5_isRight_106 : decode cX5_isRight 106 = .ok (.iconst 1, 1) := by decide +kernel
theorem dX5_isRight_107 : decode cX5_isRight 107 = .ok (.goto 4, 3) := by decide +kernel
theorem dX5_isRight_110 : decode cX5_isRight 110 = .ok (.iconst 0, 1) := by decide +kernel
theorem dX5_isRight_111 : decode cX5_isRight 111 = .ok (.istore_n 3, 1) := by decide +kernel
theorem dX5_isRight_112 : decode cX5_isRight 112 = .ok (.iinc 4 1, 3) := by decide +kernel
theorem dX5_isRight_115 : decode cX5_isRight 115 = .ok (.goto (-101), 3) := by decide +kernel
theorem dX5_isRight_118 : decode cX5_isRight 118 = .ok (.aload_n 0, 1) := by decide +kernel
theorem dX5_isRight_119 : decode cX5_isRight 119 = .ok (.getfield 86, 3) := by decide +kernel
theorem dX5_isRight_122 : decode cX5_isRight 122 = .ok (.iload_n 2, 1) := by decide +kernel
theorem dX5_isRight_123 : decode cX5_isRight 123 = .ok (.iconst (-1), 1) := by decide +kernel
theorem dX5_isRight_124 : decode cX5_isRight 124 = .ok (.ixor, 1) := by decide +kernel
theorem dX5_isRight_125 : decode cX5_isRight 125 = .ok (.iand, 1) := by decide +kernel
theorem dX5_isRight_126 : decode cX5_isRight 126 = .ok (.ifCond .ne 7, 3) := by decide +kernel
theorem dX5_isRight_129 : decode cX5_isRight 129 = .ok (.iconst 1, 1) := by decide +kernel
theorem dX5_isRight_130 : decode cX5_isRight 130 = .ok (.goto 4, 3) := by decide +kernel
theorem dX5_isRight_133 : decode cX5_isRight 133 = .ok (.iconst 0, 1) := by decide +kernel
theorem dX5_isRight_134 : decode cX5_isRight 134 = .ok (.ireturn, 1) := by decide +kernel
theorem dX5_lifeOf_0 : decode cX5_lifeOf 0 = .ok (.aload_n 0, 1) := by decide +kernel
theorem dX5_lifeOf_1 : decode cX5_lifeOf 1 = .ok (.getfield 86, 3) := by decide +kernel
theorem dX5_lifeOf_4 : decode cX5_lifeOf 4 = .ok (.istore_n 2, 1) := by decide +kernel
theorem dX5_lifeOf_5 : decode cX5_lifeOf 5 = .ok (.iconst 1, 1) := by decide +kernel
theorem dX5_lifeOf_6 : decode cX5_lifeOf 6 = .ok (.istore_n 3, 1) := by decide +kernel
theorem dX5_lifeOf_7 : decode cX5_lifeOf 7 = .ok (.iconst 0, 1) := by decide +kernel
theorem dX5_lifeOf_8 : decode cX5_lifeOf 8 = .ok (.istore 4, 2) := by decide +kernel
theorem dX5_lifeOf_10 : decode cX5_lifeOf 10 = .ok (.iload_n 3, 1) := by decide +kernel
theorem dX5_lifeOf_11 : decode cX5_lifeOf 11 = .ok (.ifCond .eq 77, 3) := by decide +kernel
theorem dX5_lifeOf_14 : decode cX5_lifeOf 14 = .ok (.iload 4, 2) := by decide +kernel
theorem dX5_lifeOf_16 : decode cX5_lifeOf 16 = .ok (.bipush 12, 2) := by decide +kernel
theorem dX5_lifeOf_18 : decode cX5_lifeOf 18 = .ok (.if_icmp .gt 70, 3) := by decide +kernel
theorem dX5_lifeOf_21 : decode cX5_lifeOf 21 = .ok (.iload_n 2, 1) := by decide +kernel
theorem dX5_lifeOf_22 : decode cX5_lifeOf 22 = .ok (.istore 5, 2) := by decide +kernel
theorem dX5_lifeOf_24 : decode cX5_lifeOf 24 = .ok (.aload_n 0, 1) := by decide +kernel
theorem dX5_lifeOf_25 : decode cX5_lifeOf 25 = .ok (.getfield 57, 3) := by decide +kernel
theorem dX5_lifeOf_28 : decode cX5_lifeOf 28 = .ok (.iconst 1, 1) := by decide +kernel
theorem dX5_lifeOf_29 : decode cX5_lifeOf 29 = .ok (.isub, 1) := by decide +kernel
theorem dX5_lifeOf_30 : decode cX5_lifeOf 30 = .ok (.istore 6, 2) := by decide +kernel
theorem dX5_lifeOf_32 : decode cX5_lifeOf 32 = .ok (.iload 6, 2) := by decide +kernel
theorem dX5_lifeOf_34 : decode cX5_lifeOf 34 = .ok (.ifCond .lt 36, 3) := by decide +kernel
theorem dX5_lifeOf_37 : decode cX5_lifeOf 37 = .ok (.iload_n 2, 1) := by decide +kernel
theorem dX5_lifeOf_38 : decode cX5_lifeOf 38 = .ok (.aload_n 0, 1) := by decide +kernel
theorem dX5_lifeOf_39 : decode cX5_lifeOf 39 = .ok (.getfield 26, 3) := by decide +kernel
theorem dX5_lifeOf_42 : decode cX5_lifeOf 42 = .ok (.iload 6, 2) := by decide +kernel
theorem dX5_lifeOf_44 : decode cX5_lifeOf 44 = .ok (.iaload, 1) := by decide +kernel
theorem dX5_lifeOf_45 : decode cX5_lifeOf 45 = .ok (.iload_n 2, 1) := by decide +kernel
theorem dX5_lifeOf_46 : decode cX5_lifeOf 46 = .ok (.iand, 1) := by decide +kernel
theorem dX5_lifeOf_47 : decode cX5_lifeOf 47 = .ok (.iload_n 1, 1) := by decide +kernel
theorem dX5_lifeOf_48 : decode cX5_lifeOf 48 = .ok (.iconst (-1), 1) := by decide +kernel
theorem dX5_lifeOf_49 : decode cX5_lifeOf 49 = .ok (.ixor, 1) := by decide +kernel
theorem dX5_lifeOf_50 : decode cX5_lifeOf 50 = .ok (.iand, 1) := by decide +kernel
theorem dX5_lifeOf_51 : decode cX5_lifeOf 51 = .ok (.ifCond .eq 10, 3) := by decide +kernel
theorem dX5_lifeOf_54 : decode cX5_lifeOf 54 = .ok (.iconst 1, 1) := by decide +kernel
theorem dX5_lifeOf_55 : decode cX5_lifeOf 55 = .ok (.iload 6, 2) := by decide +kernel
theorem dX5_lifeOf_57 : decode cX5_lifeOf 57 = .ok (.ishl, 1) := by decide +kernel
theorem dX5_lifeOf_58 : decode cX5_lifeOf 58 = .ok (.goto 4, 3) := by decide +kernel
theorem dX5_lifeOf_61 : decode cX5_lifeOf 61 = .ok (.iconst 0, 1) := by decide +kernel
theorem dX5_lifeOf_62 : decode cX5_lifeOf 62 = .ok (.ior, 1) := by decide +kernel
theorem dX5_lifeOf_63 : decode cX5_lifeOf 63 = .ok (.istore_n 2, 1) := by decide +kernel
theorem dX5_lifeOf_64 : decode cX5_lifeOf 64 = .ok (.iinc 6 (-1), 3) := by decide +kernel
theorem dX5_lifeOf_67 : decode cX5_lifeOf 67 = .ok (.goto (-35), 3) := by decide +kernel
theorem dX5_lifeOf_70 : decode cX5_lifeOf 70 = .ok (.iload_n 2, 1) := by decide +kernel
theorem dX5_lifeOf_71 : decode cX5_lifeOf 71 = .ok (.iload 5, 2) := by decide +kernel
theorem dX5_lifeOf_73 : decode cX5_lifeOf 73 = .ok (.if_icmp .eq 7, 3) := by decide +kernel
theorem dX5_lifeOf_76 : decode cX5_lifeOf 76 = .ok (.iconst 1, 1) := by decide +kernel
theorem dX5_lifeOf_77 : decode cX5_lifeOf 77 = .ok (.goto 4, 3) := by decide +kernel
theorem dX5_lifeOf_80 : decode cX5_lifeOf 80 = .ok (.iconst 0, 1) := by decide +kernel
theorem dX5_lifeOf_81 : decode cX5_lifeOf 81 = .ok (.istore_n 3, 1) := by decide +kernel
theorem dX5_lifeOf_82 : decode cX5_lifeOf 82 = .ok (.iinc 4 1, 3) := by decide +kernel
theorem dX5_lifeOf_85 : decode cX5_lifeOf 85 = .ok (.goto (-75), 3) := by decide +kernel
theorem dX5_lifeOf_88 : decode cX5_lifeOf 88 = .ok (.iload_n 2, 1) := by decide +kernel
theorem dX5_lifeOf_89 : decode cX5_lifeOf 89 = .ok (.invokestatic 116, 3) := by decide +kernel
theorem dX5_lifeOf_92 : decode cX5_lifeOf 92 = .ok (.ireturn, 1) := by decide +kernel
theorem dX5_isFew_0 : decode cX5_isFew 0 = .ok (.aload_n 0, 1) := by decide +kernel
theorem dX5_isFew_1 : decode cX5_isFew 1 = .ok (.getfield 29, 3) := by decide +kernel
theorem dX5_isFew_4 : decode cX5_isFew 4 = .ok (.sipush (-1000), 3) := by decide +kernel
theorem dX5_isFew_7 : decode cX5_isFew 7 = .ok (.invokestatic 61, 3) := by decide +kernel
theorem dX5_isFew_10 : decode cX5_isFew 10 = .ok (.aload_n 0, 1) := by decide +kernel
theorem dX5_isFew_11 : decode cX5_isFew 11 = .ok (.getfield 29, 3) := by decide +kernel
theorem dX5_isFew_14 : decode cX5_isFew 14 = .ok (.iconst 0, 1) := by decide +kernel
theorem dX5_isFew_15 : decode cX5_isFew 15 = .ok (.aload_n 0, 1) := by decide +kernel
theorem dX5_isFew_16 : decode cX5_isFew 16 = .ok (.iload_n 1, 1) := by decide +kernel
theorem dX5_isFew_17 : decode cX5_isFew 17 = .ok (.iconst 0, 1) := by decide +kernel
theorem dX5_isFew_18 : decode cX5_isFew 18 = .ok (.invokevirtual 126, 3) := by decide +kernel
theorem dX5_isFew_21 : decode cX5_isFew 21 = .ok (.iastore, 1) := by decide +kernel
theorem dX5_isFew_22 : decode cX5_isFew 22 = .ok (.iload_n 1, 1) := by decide +kernel
theorem dX5_isFew_23 : decode cX5_isFew 23 = .ok (.aload_n 0, 1) := by decide +kernel
theorem dX5_isFew_24 : decode cX5_isFew 24 = .ok (.getfield 101, 3) := by decide +kernel
theorem dX5_isFew_27 : decode cX5_isFew 27 = .ok (.iconst (-1), 1) := by decide +kernel
theorem dX5_isFew_28 : decode cX5_isFew 28 = .ok (.ixor, 1) := by decide +kernel
theorem dX5_isFew_29 : decode cX5_isFew 29 = .ok (.iand, 1) := by decide +kernel
theorem dX5_isFew_30 : decode cX5_isFew 30 = .ok (.invokestatic 116, 3) := by decide +kernel
theorem dX5_isFew_33 : decode cX5_isFew 33 = .ok (.istore_n 2, 1) := by decide +kernel
theorem dX5_isFew_34 : decode cX5_isFew 34 = .ok (.iconst 1, 1) := by decide +kernel
theorem dX5_isFew_35 : decode cX5_isFew 35 = .ok (.istore_n 3, 1) := by decide +kernel
theorem dX5_isFew_36 : decode cX5_isFew 36 = .ok (.iconst 0, 1) := by decide +kernel
theorem dX5_isFew_37 : decode cX5_isFew 37 = .ok (.istore 4, 2) := by decide +kernel
theorem dX5_isFew_39 : decode cX5_isFew 39 = .ok (.iload_n 3, 1) := by decide +kernel
theorem dX5_isFew_40 : decode cX5_isFew 40 = .ok (.ifCond .eq 135, 3) := by decide +kernel
theorem dX5_isFew_43 : decode cX5_isFew 43 = .ok (.iload 4, 2) := by decide +kernel
theorem dX5_isFew_45 : decode cX5_isFew 45 = .ok (.aload_n 0, 1) := by decide +kernel
theorem dX5_isFew_46 : decode cX5_isFew 46 = .ok (.getfield 57, 3) := by decide +kernel
theorem dX5_isFew_49 : decode cX5_isFew 49 = .ok (.if_icmp .gt 126, 3) := by decide +kernel
theorem dX5_isFew_52 : decode cX5_isFew 52 = .ok (.iconst 0, 1) := by decide +kernel
theorem dX5_isFew_53 : decode cX5_isFew 53 = .ok (.istore_n 3, 1) := by decide +kernel
theorem dX5_isFew_54 : decode cX5_isFew 54 = .ok (.iconst 0, 1) := by decide +kernel
theorem dX5_isFew_55 : decode cX5_isFew 55 = .ok (.istore 5, 2) := by decide +kernel
theorem dX5_isFew_57 : decode cX5_isFew 57 = .ok (.iload 5, 2) := by decide +kernel
theorem dX5_isFew_59 : decode cX5_isFew 59 = .ok (.aload_n 0, 1) := by decide +kernel
theorem dX5_isFew_60 : decode cX5_isFew 60 = .ok (.getfield 57, 3) := by decide +kernel
theorem dX5_isFew_63 : decode cX5_isFew 63 = .ok (.if_icmp .ge 106, 3) := by decide +kernel
theorem dX5_isFew_66 : decode cX5_isFew 66 = .ok (.aload_n 0, 1) := by decide +kernel
theorem dX5_isFew_67 : decode cX5_isFew 67 = .ok (.getfield 29, 3) := by decide +kernel
theorem dX5_isFew_70 : decode cX5_isFew 70 = .ok (.iload 5, 2) := by decide +kernel
theorem dX5_isFew_72 : decode cX5_isFew 72 = .ok (.iaload, 1) := by decide +kernel
theorem dX5_isFew_73 : decode cX5_isFew 73 = .ok (.iload_n 2, 1) := by decide +kernel
theorem dX5_isFew_74 : decode cX5_isFew 74 = .ok (.if_icmp .le 5, 3) := by decide +kernel
theorem dX5_isFew_77 : decode cX5_isFew 77 = .ok (.iconst 0, 1) := by decide +kernel
theorem dX5_isFew_78 : decode cX5_isFew 78 = .ok (.ireturn, 1) := by decide +kernel
theorem dX5_isFew_79 : decode cX5_isFew 79 = .ok (.aload_n 0, 1) := by decide +kernel
theorem dX5_isFew_80 : decode cX5_isFew 80 = .ok (.getfield 29, 3) := by decide +kernel
theorem dX5_isFew_83 : decode cX5_isFew 83 = .ok (.iload 5, 2) := by decide +kernel
theorem dX5_isFew_85 : decode cX5_isFew 85 = .ok (.iaload, 1) := by decide +kernel
theorem dX5_isFew_86 : decode cX5_isFew 86 = .ok (.sipush (-500), 3) := by decide +kernel
theorem dX5_isFew_89 : decode cX5_isFew 89 = .ok (.if_icmp .le 7, 3) := by decide +kernel
theorem dX5_isFew_92 : decode cX5_isFew 92 = .ok (.iconst 1, 1) := by decide +kernel
theorem dX5_isFew_93 : decode cX5_isFew 93 = .ok (.goto 4, 3) := by decide +kernel
theorem dX5_isFew_96 : decode cX5_isFew 96 = .ok (.iconst 0, 1) := by decide +kernel
theorem dX5_isFew_97 : decode cX5_isFew 97 = .ok (.istore 6, 2) := by decide +kernel
theorem dX5_isFew_99 : decode cX5_isFew 99 = .ok (.iload 6, 2) := by decide +kernel
theorem dX5_isFew_101 : decode cX5_isFew 101 = .ok (.ifCond .eq 20, 3) := by decide +kernel
theorem dX5_isFew_104 : decode cX5_isFew 104 = .ok (.aload_n 0, 1) := by decide +kernel
theorem dX5_isFew_105 : decode cX5_isFew 105 = .ok (.iload_n 1, 1) := by decide +kernel
theorem dX5_isFew_106 : decode cX5_isFew 106 = .ok (.iload 5, 2) := by decide +kernel
theorem dX5_isFew_108 : decode cX5_isFew 108 = .ok (.aload_n 0, 1) := by decide +kernel
theorem dX5_isFew_109 : decode cX5_isFew 109 = .ok (.getfield 16, 3) := by decide +kernel
theorem dX5_isFew_112 : decode cX5_isFew 112 = .ok (.iload 5, 2) := by decide +kernel
theorem dX5_isFew_114 : decode cX5_isFew 114 = .ok (.iaload, 1) := by decide +kernel
theorem dX5_isFew_115 : decode cX5_isFew 115 = .ok (.invokevirtual 129, 3) := by decide +kernel
theorem dX5_isFew_118 : decode cX5_isFew 118 = .ok (.ifCond .ne 7, 3) := by decide +kernel
theorem dX5_isFew_121 : decode cX5_isFew 121 = .ok (.iload_n 3, 1) := by decide +kernel
theorem dX5_isFew_122 : decode cX5_isFew 122 = .ok (.ifCond .eq 7, 3) := by decide +kernel
theorem dX5_isFew_125 : decode cX5_isFew 125 = .ok (.iconst 1, 1) := by decide +kernel
theorem dX5_isFew_126 : decode cX5_isFew 126 = .ok (.goto 4, 3) := by decide +kernel
theorem dX5_isFew_129 : decode cX5_isFew 129 = .ok (.iconst 0, 1) := by decide +kernel
theorem dX5_isFew_130 : decode cX5_isFew 130 = .ok (.istore_n 3, 1) := by decide +kernel
theorem dX5_isFew_131 : decode cX5_isFew 131 = .ok (.iload 6, 2) := by decide +kernel
theorem dX5_isFew_133 : decode cX5_isFew 133 = .ok (.ifCond .eq 20, 3) := by decide +kernel
theorem dX5_isFew_136 : decode cX5_isFew 136 = .ok (.aload_n 0, 1) := by decide +kernel
theorem dX5_isFew_137 : decode cX5_isFew 137 = .ok (.iload_n 1, 1) := by decide +kernel
theorem dX5_isFew_138 : decode cX5_isFew 138 = .ok (.iload 5, 2) := by decide +kernel
theorem dX5_isFew_140 : decode cX5_isFew 140 = .ok (.aload_n 0, 1) := by decide +kernel
theorem dX5_isFew_141 : decode cX5_isFew 141 = .ok (.getfield 20, 3) := by decide +kernel
theorem dX5_isFew_144 : decode cX5_isFew 144 = .ok (.iload 5, 2) := by decide +kernel
theorem dX5_isFew_146 : decode cX5_isFew 146 = .ok (.iaload, 1) := by decide +kernel
theorem dX5_isFew_147 : decode cX5_isFew 147 = .ok (.invokevirtual 129, 3) := by decide +kernel
theorem dX5_isFew_150 : decode cX5_isFew 150 = .ok (.ifCond .ne 7, 3) := by decide +kernel
theorem dX5_isFew_153 : decode cX5_isFew 153 = .ok (.iload_n 3, 1) := by decide +kernel
theorem dX5_isFew_154 : decode cX5_isFew 154 = .ok (.ifCond .eq 7, 3) := by decide +kernel
theorem dX5_isFew_157 : decode cX5_isFew 157 = .ok (.iconst 1, 1) := by decide +kernel
theorem dX5_isFew_158 : decode cX5_isFew 158 = .ok (.goto 4, 3) := by decide +kernel
theorem dX5_isFew_161 : decode cX5_isFew 161 = .ok (.iconst 0, 1) := by decide +kernel
theorem dX5_isFew_162 : decode cX5_isFew 162 = .ok (.istore_n 3, 1) := by decide +kernel
theorem dX5_isFew_163 : decode cX5_isFew 163 = .ok (.iinc 5 1, 3) := by decide +kernel
theorem dX5_isFew_166 : decode cX5_isFew 166 = .ok (.goto (-109), 3) := by decide +kernel
theorem dX5_isFew_169 : decode cX5_isFew 169 = .ok (.iinc 4 1, 3) := by decide +kernel
theorem dX5_isFew_172 : decode cX5_isFew 172 = .ok (.goto (-133), 3) := by decide +kernel
theorem dX5_isFew_175 : decode cX5_isFew 175 = .ok (.iload_n 3, 1) := by decide +kernel
theorem dX5_isFew_176 : decode cX5_isFew 176 = .ok (.ifCond .ne 14, 3) := by decide +kernel
theorem dX5_isFew_179 : decode cX5_isFew 179 = .ok (.aload_n 0, 1) := by decide +kernel
theorem dX5_isFew_180 : decode cX5_isFew 180 = .ok (.invokevirtual 133, 3) := by decide +kernel
theorem dX5_isFew_183 : decode cX5_isFew 183 = .ok (.ifCond .ne 7, 3) := by decide +kernel
theorem dX5_isFew_186 : decode cX5_isFew 186 = .ok (.iconst 1, 1) := by decide +kernel
theorem dX5_isFew_187 : decode cX5_isFew 187 = .ok (.goto 4, 3) := by decide +kernel
theorem dX5_isFew_190 : decode cX5_isFew 190 = .ok (.iconst 0, 1) := by decide +kernel
theorem dX5_isFew_191 : decode cX5_isFew 191 = .ok (.ireturn, 1) := by decide +kernel
theorem dX5_carry_0 : decode cX5_carry 0 = .ok (.iload_n 3, 1) := by decide +kernel
theorem dX5_carry_1 : decode cX5_carry 1 = .ok (.ifCond .lt 33, 3) := by decide +kernel
theorem dX5_carry_4 : decode cX5_carry 4 = .ok (.iload_n 3, 1) := by decide +kernel
theorem dX5_carry_5 : decode cX5_carry 5 = .ok (.aload_n 0, 1) := by decide +kernel
theorem dX5_carry_6 : decode cX5_carry 6 = .ok (.getfield 57, 3) := by decide +kernel
theorem dX5_carry_9 : decode cX5_carry 9 = .ok (.if_icmp .ge 25, 3) := by decide +kernel
theorem dX5_carry_12 : decode cX5_carry 12 = .ok (.aload_n 0, 1) := by decide +kernel
theorem dX5_carry_13 : decode cX5_carry 13 = .ok (.getfield 29, 3) := by decide +kernel
theorem dX5_carry_16 : decode cX5_carry 16 = .ok (.iload_n 2, 1) := by decide +kernel
theorem dX5_carry_17 : decode cX5_carry 17 = .ok (.iaload, 1) := by decide +kernel
theorem dX5_carry_18 : decode cX5_carry 18 = .ok (.aload_n 0, 1) := by decide +kernel
theorem dX5_carry_19 : decode cX5_carry 19 = .ok (.iload_n 1, 1) := by decide +kernel
theorem dX5_carry_20 : decode cX5_carry 20 = .ok (.iload_n 3, 1) := by decide +kernel
theorem dX5_carry_21 : decode cX5_carry 21 = .ok (.invokevirtual 126, 3) := by decide +kernel
theorem dX5_carry_24 : decode cX5_carry 24 = .ok (.iadd, 1) := by decide +kernel
theorem dX5_carry_25 : decode cX5_carry 25 = .ok (.aload_n 0, 1) := by decide +kernel
theorem dX5_carry_26 : decode cX5_carry 26 = .ok (.getfield 29, 3) := by decide +kernel
theorem dX5_carry_29 : decode cX5_carry 29 = .ok (.iload_n 3, 1) := by decide +kernel
theorem dX5_carry_30 : decode cX5_carry 30 = .ok (.iaload, 1) := by decide +kernel
theorem dX5_carry_31 : decode cX5_carry 31 = .ok (.if_icmp .gt 5, 3) := by decide +kernel
theorem dX5_carry_34 : decode cX5_carry 34 = .ok (.iconst 0, 1) := by decide +kernel
theorem dX5_carry_35 : decode cX5_carry 35 = .ok (.ireturn, 1) := by decide +kernel
theorem dX5_carry_36 : decode cX5_carry 36 = .ok (.aload_n 0, 1) := by decide +kernel
theorem dX5_carry_37 : decode cX5_carry 37 = .ok (.getfield 29, 3) := by decide +kernel
theorem dX5_carry_40 : decode cX5_carry 40 = .ok (.iload_n 3, 1) := by decide +kernel
theorem dX5_carry_41 : decode cX5_carry 41 = .ok (.aload_n 0, 1) := by decide +kernel
theorem dX5_carry_42 : decode cX5_carry 42 = .ok (.getfield 29, 3) := by decide +kernel
theorem dX5_carry_45 : decode cX5_carry 45 = .ok (.iload_n 2, 1) := by decide +kernel
theorem dX5_carry_46 : decode cX5_carry 46 = .ok (.iaload, 1) := by decide +kernel
theorem dX5_carry_47 : decode cX5_carry 47 = .ok (.aload_n 0, 1) := by decide +kernel
theorem dX5_carry_48 : decode cX5_carry 48 = .ok (.iload_n 1, 1) := by decide +kernel
theorem dX5_carry_49 : decode cX5_carry 49 = .ok (.iload_n 3, 1) := by decide +kernel
theorem dX5_carry_50 : decode cX5_carry 50 = .ok (.invokevirtual 126, 3) := by decide +kernel
theorem dX5_carry_53 : decode cX5_carry 53 = .ok (.iadd, 1) := by decide +kernel
theorem dX5_carry_54 : decode cX5_carry 54 = .ok (.iastore, 1) := by decide +kernel
theorem dX5_carry_55 : decode cX5_carry 55 = .ok (.iconst 1, 1) := by decide +kernel
theorem dX5_carry_56 : decode cX5_carry 56 = .ok (.ireturn, 1) := by decide +kernel
theorem dX5_gain_0 : decode cX5_gain 0 = .ok (.iload_n 1, 1) := by decide +kernel
theorem dX5_gain_1 : decode cX5_gain 1 = .ok (.iload_n 2, 1) := by decide +kernel
theorem dX5_gain_2 : decode cX5_gain 2 = .ok (.invokestatic 41, 3) := by decide +kernel
theorem dX5_gain_5 : decode cX5_gain 5 = .ok (.aload_n 0, 1) := by decide +kernel
theorem dX5_gain_6 : decode cX5_gain 6 = .ok (.getfield 101, 3) := by decide +kernel
theorem dX5_gain_9 : decode cX5_gain 9 = .ok (.iload_n 2, 1) := by decide +kernel
theorem dX5_gain_10 : decode cX5_gain 10 = .ok (.invokestatic 41, 3) := by decide +kernel
theorem dX5_gain_13 : decode cX5_gain 13 = .ok (.isub, 1) := by decide +kernel
theorem dX5_gain_14 : decode cX5_gain 14 = .ok (.ireturn, 1) := by decide +kernel
theorem dX5_endsAhead_0 : decode cX5_endsAhead 0 = .ok (.iconst 0, 1) := by decide +kernel
theorem dX5_endsAhead_1 : decode cX5_endsAhead 1 = .ok (.istore_n 1, 1) := by decide +kernel
theorem dX5_endsAhead_2 : decode cX5_endsAhead 2 = .ok (.iload_n 1, 1) := by decide +kernel
theorem dX5_endsAhead_3 : decode cX5_endsAhead 3 = .ok (.aload_n 0, 1) := by decide +kernel
theorem dX5_endsAhead_4 : decode cX5_endsAhead 4 = .ok (.getfield 57, 3) := by decide +kernel
theorem dX5_endsAhead_7 : decode cX5_endsAhead 7 = .ok (.if_icmp .ge 32, 3) := by decide +kernel
theorem dX5_endsAhead_10 : decode cX5_endsAhead 10 = .ok (.aload_n 0, 1) := by decide +kernel
theorem dX5_endsAhead_11 : decode cX5_endsAhead 11 = .ok (.getfield 58, 3) := by decide +kernel
theorem dX5_endsAhead_14 : decode cX5_endsAhead 14 = .ok (.iload_n 1, 1) := by decide +kernel
theorem dX5_endsAhead_15 : decode cX5_endsAhead 15 = .ok (.invokestatic 41, 3) := by decide +kernel
theorem dX5_endsAhead_18 : decode cX5_endsAhead 18 = .ok (.iconst 1, 1) := by decide +kernel
theorem dX5_endsAhead_19 : decode cX5_endsAhead 19 = .ok (.if_icmp .ne 14, 3) := by decide +kernel
theorem dX5_endsAhead_22 : decode cX5_endsAhead 22 = .ok (.aload_n 0, 1) := by decide +kernel
theorem dX5_endsAhead_23 : decode cX5_endsAhead 23 = .ok (.getfield 29, 3) := by decide +kernel
theorem dX5_endsAhead_26 : decode cX5_endsAhead 26 = .ok (.iload_n 1, 1) := by decide +kernel
theorem dX5_endsAhead_27 : decode cX5_endsAhead 27 = .ok (.iaload, 1) := by decide +kernel
theorem dX5_endsAhead_28 : decode cX5_endsAhead 28 = .ok (.ifCond .le 5, 3) := by decide +kernel
theorem dX5_endsAhead_31 : decode cX5_endsAhead 31 = .ok (.iconst 1, 1) := by decide +kernel
theorem dX5_endsAhead_32 : decode cX5_endsAhead 32 = .ok (.ireturn, 1) := by decide +kernel
theorem dX5_endsAhead_33 : decode cX5_endsAhead 33 = .ok (.iinc 1 1, 3) := by decide +kernel
theorem dX5_endsAhead_36 : decode cX5_endsAhead 36 = .ok (.goto (-34), 3) := by decide +kernel
theorem dX5_endsAhead_39 : decode cX5_endsAhead 39 = .ok (.iconst 0, 1) := by decide +kernel
theorem dX5_endsAhead_40 : decode cX5_endsAhead 40 = .ok (.ireturn, 1) := by decide +kernel
theorem dX6_init_0 : decode cX6_init 0 = .ok (.aload_n 0, 1) := by decide +kernel
theorem dX6_init_1 : decode cX6_init 1 = .ok (.invokespecial 3, 3) := by decide +kernel
theorem dX6_init_4 : decode cX6_init 4 = .ok (.aload_n 0, 1) := by decide +kernel
theorem dX6_init_5 : decode cX6_init 5 = .ok (.sipush 128, 3) := by decide +kernel
theorem dX6_init_8 : decode cX6_init 8 = .ok (.newarray .int, 2) := by decide +kernel
theorem dX6_init_10 : decode cX6_init 10 = .ok (.putfield 9, 3) := by decide +kernel
theorem dX6_init_13 : decode cX6_init 13 = .ok (.aload_n 0, 1) := by decide +kernel
theorem dX6_init_14 : decode cX6_init 14 = .ok (.sipush 128, 3) := by decide +kernel
theorem dX6_init_17 : decode cX6_init 17 = .ok (.newarray .int, 2) := by decide +kernel
theorem dX6_init_19 : decode cX6_init 19 = .ok (.putfield 15, 3) := by decide +kernel
theorem dX6_init_22 : decode cX6_init 22 = .ok (.aload_n 0, 1) := by decide +kernel
theorem dX6_init_23 : decode cX6_init 23 = .ok (.sipush 128, 3) := by decide +kernel
theorem dX6_init_26 : decode cX6_init 26 = .ok (.newarray .int, 2) := by decide +kernel
theorem dX6_init_28 : decode cX6_init 28 = .ok (.putfield 18, 3) := by decide +kernel
theorem dX6_init_31 : decode cX6_init 31 = .ok (.aload_n 0, 1) := by decide +kernel
theorem dX6_init_32 : decode cX6_init 32 = .ok (.bipush 24, 2) := by decide +kernel
theorem dX6_init_34 : decode cX6_init 34 = .ok (.newarray .int, 2) := by decide +kernel
theorem dX6_init_36 : decode cX6_init 36 = .ok (.putfield 21, 3) := by decide +kernel
theorem dX6_init_39 : decode cX6_init 39 = .ok (.aload_n 0, 1) := by decide +kernel
theorem dX6_init_40 : decode cX6_init 40 = .ok (.bipush 24, 2) := by decide +kernel
theorem dX6_init_42 : decode cX6_init 42 = .ok (.newarray .int, 2) := by decide +kernel
theorem dX6_init_44 : decode cX6_init 44 = .ok (.putfield 24, 3) := by decide +kernel
theorem dX6_init_47 : decode cX6_init 47 = .ok (.return_, 1) := by decide +kernel
theorem dX6_tell_0 : decode cX6_tell 0 = .ok (.iload_n 1, 1) := by decide +kernel
theorem dX6_tell_1 : decode cX6_tell 1 = .ok (.ifCond .lt 24, 3) := by decide +kernel
theorem dX6_tell_4 : decode cX6_tell 4 = .ok (.iload_n 1, 1) := by decide +kernel
theorem dX6_tell_5 : decode cX6_tell 5 = .ok (.sipush 128, 3) := by decide +kernel
theorem dX6_tell_8 : decode cX6_tell 8 = .ok (.if_icmp .ge 17, 3) := by decide +kernel
theorem dX6_tell_11 : decode cX6_tell 11 = .ok (.aload_n 0, 1) := by decide +kernel
theorem dX6_tell_12 : decode cX6_tell 12 = .ok (.getfield 9, 3) := by decide +kernel
theorem dX6_tell_15 : decode cX6_tell 15 = .ok (.iload_n 1, 1) := by decide +kernel
theorem dX6_tell_16 : decode cX6_tell 16 = .ok (.iload_n 2, 1) := by decide +kernel
theorem dX6_tell_17 : decode cX6_tell 17 = .ok (.iastore, 1) := by decide +kernel
theorem dX6_tell_18 : decode cX6_tell 18 = .ok (.aload_n 0, 1) := by decide +kernel
theorem dX6_tell_19 : decode cX6_tell 19 = .ok (.getfield 15, 3) := by decide +kernel
theorem dX6_tell_22 : decode cX6_tell 22 = .ok (.iload_n 1, 1) := by decide +kernel
theorem dX6_tell_23 : decode cX6_tell 23 = .ok (.iload_n 3, 1) := by decide +kernel
theorem dX6_tell_24 : decode cX6_tell 24 = .ok (.iastore, 1) := by decide +kernel
theorem dX6_tell_25 : decode cX6_tell 25 = .ok (.return_, 1) := by decide +kernel
theorem dX6_build_0 : decode cX6_build 0 = .ok (.iconst 0, 1) := by decide +kernel
theorem dX6_build_1 : decode cX6_build 1 = .ok (.istore_n 3, 1) := by decide +kernel
theorem dX6_build_2 : decode cX6_build 2 = .ok (.iload_n 3, 1) := by decide +kernel
theorem dX6_build_3 : decode cX6_build 3 = .ok (.aload_n 1, 1) := by decide +kernel
theorem dX6_build_4 : decode cX6_build 4 = .ok (.getfield 27, 3) := by decide +kernel
theorem dX6_build_7 : decode cX6_build 7 = .ok (.if_icmp .ge 30, 3) := by decide +kernel
theorem dX6_build_10 : decode cX6_build 10 = .ok (.aload_n 2, 1) := by decide +kernel
theorem dX6_build_11 : decode cX6_build 11 = .ok (.iload_n 3, 1) := by decide +kernel
theorem dX6_build_12 : decode cX6_build 12 = .ok (.aload_n 0, 1) := by decide +kernel
theorem dX6_build_13 : decode cX6_build 13 = .ok (.getfield 15, 3) := by decide +kernel
theorem dX6_build_16 : decode cX6_build 16 = .ok (.iload_n 3, 1) := by decide +kernel
theorem dX6_build_17 : decode cX6_build 17 = .ok (.iaload, 1) := by decide +kernel
theorem dX6_build_18 : decode cX6_build 18 = .ok (.iconst (-1), 1) := by decide +kernel
theorem dX6_build_19 : decode cX6_build 19 = .ok (.iconst 0, 1) := by decide +kernel
theorem dX6_build_20 : decode cX6_build 20 = .ok (.aload_n 0, 1) := by decide +kernel
theorem dX6_build_21 : decode cX6_build 21 = .ok (.getfield 9, 3) := by decide +kernel
theorem dX6_build_24 : decode cX6_build 24 = .ok (.iload_n 3, 1) := by decide +kernel
theorem dX6_build_25 : decode cX6_build 25 = .ok (.iaload, 1) := by decide +kernel
theorem dX6_build_26 : decode cX6_build 26 = .ok (.iconst (-1), 1) := by decide +kernel
theorem dX6_build_27 : decode cX6_build 27 = .ok (.ixor, 1) := by decide +kernel
theorem dX6_build_28 : decode cX6_build 28 = .ok (.invokevirtual 33, 3) := by decide +kernel
theorem dX6_build_31 : decode cX6_build 31 = .ok (.iinc 3 1, 3) := by decide +kernel
theorem dX6_build_34 : decode cX6_build 34 = .ok (.goto (-32), 3) := by decide +kernel
theorem dX6_build_37 : decode cX6_build 37 = .ok (.aload_n 2, 1) := by decide +kernel
theorem dX6_build_38 : decode cX6_build 38 = .ok (.aload_n 1, 1) := by decide +kernel
theorem dX6_build_39 : decode cX6_build 39 = .ok (.aload_n 0, 1) := by decide +kernel
theorem dX6_build_40 : decode cX6_build 40 = .ok (.getfield 18, 3) := by decide +kernel
theorem dX6_build_43 : decode cX6_build 43 = .ok (.iconst (-1), 1) := by decide +kernel
theorem dX6_build_44 : decode cX6_build 44 = .ok (.iconst 1, 1) := by decide +kernel
theorem dX6_build_45 : decode cX6_build 45 = .ok (.iconst 0, 1) := by decide +kernel
theorem dX6_build_46 : decode cX6_build 46 = .ok (.invokevirtual 39, 3) := by decide +kernel
theorem dX6_build_49 : decode cX6_build 49 = .ok (.aload_n 0, 1) := by decide +kernel
theorem dX6_build_50 : decode cX6_build 50 = .ok (.aload_n 1, 1) := by decide +kernel
theorem dX6_build_51 : decode cX6_build 51 = .ok (.invokevirtual 43, 3) := by decide +kernel
theorem dX6_build_54 : decode cX6_build 54 = .ok (.aload_n 0, 1) := by decide +kernel
theorem dX6_build_55 : decode cX6_build 55 = .ok (.aload_n 1, 1) := by decide +kernel
theorem dX6_build_56 : decode cX6_build 56 = .ok (.invokevirtual 47, 3) := by decide +kernel
theorem dX6_build_59 : decode cX6_build 59 = .ok (.return_, 1) := by decide +kernel
theorem dX6_findClashes_0 : decode cX6_findClashes 0 = .ok (.iconst 0, 1) := by decide +kernel
theorem dX6_findClashes_1 : decode cX6_findClashes 1 = .ok (.istore_n 2, 1) := by decide +kernel
theorem dX6_findClashes_2 : decode cX6_findClashes 2 = .ok (.iload_n 2, 1) := by decide +kernel
theorem dX6_findClashes_3 : decode cX6_findClashes 3 = .ok (.aload_n 1, 1) := by decide +kernel
theorem dX6_findClashes_4 : decode cX6_findClashes 4 = .ok (.getfield 50, 3) := by decide +kernel
theorem dX6_findClashes_7 : decode cX6_findClashes 7 = .ok (.getfield 54, 3) := by decide +kernel
theorem dX6_findClashes_10 : decode cX6_findClashes 10 = .ok (.if_icmp .ge 71, 3) := by decide +kernel
theorem dX6_findClashes_13 : decode cX6_findClashes 13 = .ok (.iconst 0, 1) := by decide +kernel
theorem dX6_findClashes_14 : decode cX6_findClashes 14 = .ok (.istore_n 3, 1) := by decide +kernel
theorem dX6_findClashes_15 : decode cX6_findClashes 15 = .ok (.iconst 0, 1) := by decide +kernel
theorem dX6_findClashes_16 : decode cX6_findClashes 16 = .ok (.istore 4, 2) := by decide +kernel
theorem dX6_findClashes_18 : decode cX6_findClashes 18 = .ok (.iload 4, 2) := by decide +kernel
theorem dX6_findClashes_20 : decode cX6_findClashes 20 = .ok (.aload_n 1, 1) := by decide +kernel
theorem dX6_findClashes_21 : decode cX6_findClashes 21 = .ok (.getfield 27, 3) := by decide +kernel
theorem dX6_findClashes_24 : decode cX6_findClashes 24 = .ok (.if_icmp .ge 38, 3) := by decide +kernel
theorem dX6_findClashes_27 : decode cX6_findClashes 27 = .ok (.iload_n 3, 1) := by decide +kernel
theorem dX6_findClashes_28 : decode cX6_findClashes 28 = .ok (.aload_n 0, 1) := by decide +kernel
theorem dX6_findClashes_29 : decode cX6_findClashes 29 = .ok (.getfield 18, 3) := by decide +kernel
theorem dX6_findClashes_32 : decode cX6_findClashes 32 = .ok (.iload 4, 2) := by decide +kernel
theorem dX6_findClashes_34 : decode cX6_findClashes 34 = .ok (.iaload, 1) := by decide +kernel
theorem dX6_findClashes_35 : decode cX6_findClashes 35 = .ok (.iload_n 2, 1) := by decide +kernel
theorem dX6_findClashes_36 : decode cX6_findClashes 36 = .ok (.invokestatic 59, 3) := by decide +kernel
theorem dX6_findClashes_39 : decode cX6_findClashes 39 = .ok (.iconst 1, 1) := by decide +kernel
theorem dX6_findClashes_40 : decode cX6_findClashes 40 = .ok (.if_icmp .ne 13, 3) := by decide +kernel
theorem dX6_findClashes_43 : decode cX6_findClashes 43 = .ok (.aload_n 0, 1) := by decide +kernel
theorem dX6_findClashes_44 : decode cX6_findClashes 44 = .ok (.getfield 18, 3) := by decide +kernel
theorem dX6_findClashes_47 : decode cX6_findClashes 47 = .ok (.iload 4, 2) := by decide +kernel
theorem dX6_findClashes_49 : decode cX6_findClashes 49 = .ok (.iaload, 1) := by decide +kernel
theorem dX6_findClashes_50 : decode cX6_findClashes 50 = .ok (.goto 4, 3) := by decide +kernel
theorem dX6_findClashes_53 : decode cX6_findClashes 53 = .ok (.iconst 0, 1) := by decide +kernel
theorem dX6_findClashes_54 : decode cX6_findClashes 54 = .ok (.ior, 1) := by decide +kernel
theorem dX6_findClashes_55 : decode cX6_findClashes 55 = .ok (.istore_n 3, 1) := by decide +kernel
theorem dX6_findClashes_56 : decode cX6_findClashes 56 = .ok (.iinc 4 1, 3) := by decide +kernel
theorem dX6_findClashes_59 : decode cX6_findClashes 59 = .ok (.goto (-41), 3) := by decide +kernel
theorem dX6_findClashes_62 : decode cX6_findClashes 62 = .ok (.aload_n 0, 1) := by decide +kernel
theorem dX6_findClashes_63 : decode cX6_findClashes 63 = .ok (.getfield 21, 3) := by decide +kernel
theorem dX6_findClashes_66 : decode cX6_findClashes 66 = .ok (.iload_n 2, 1) := by decide +kernel
theorem dX6_findClashes_67 : decode cX6_findClashes 67 = .ok (.iload_n 3, 1) := by decide +kernel
theorem dX6_findClashes_68 : decode cX6_findClashes 68 = .ok (.iconst 1, 1) := by decide +kernel
theorem dX6_findClashes_69 : decode cX6_findClashes 69 = .ok (.iload_n 2, 1) := by decide +kernel
theorem dX6_findClashes_70 : decode cX6_findClashes 70 = .ok (.ishl, 1) := by decide +kernel
theorem dX6_findClashes_71 : decode cX6_findClashes 71 = .ok (.iconst (-1), 1) := by decide +kernel
theorem dX6_findClashes_72 : decode cX6_findClashes 72 = .ok (.ixor, 1) := by decide +kernel
theorem dX6_findClashes_73 : decode cX6_findClashes 73 = .ok (.iand, 1) := by decide +kernel
theorem dX6_findClashes_74 : decode cX6_findClashes 74 = .ok (.iastore, 1) := by decide +kernel
theorem dX6_findClashes_75 : decode cX6_findClashes 75 = .ok (.iinc 2 1, 3) := by decide +kernel
theorem dX6_findClashes_78 : decode cX6_findClashes 78 = .ok (.goto (-76), 3) := by decide +kernel
theorem dX6_findClashes_81 : decode cX6_findClashes 81 = .ok (.return_, 1) := by decide +kernel
theorem dX6_shareNames_0 : decode cX6_shareNames 0 = .ok (.aload_n 0, 1) := by decide +kernel
theorem dX6_shareNames_1 : decode cX6_shareNames 1 = .ok (.iconst 0, 1) := by decide +kernel
theorem dX6_shareNames_2 : decode cX6_shareNames 2 = .ok (.putfield 63, 3) := by decide +kernel
theorem dX6_shareNames_5 : decode cX6_shareNames 5 = .ok (.iconst 0, 1) := by decide +kernel
theorem dX6_shareNames_6 : decode cX6_shareNames 6 = .ok (.istore_n 2, 1) := by decide +kernel
theorem dX6_shareNames_7 : decode cX6_shareNames 7 = .ok (.iload_n 2, 1) := by decide +kernel
theorem dX6_shareNames_8 : decode cX6_shareNames 8 = .ok (.aload_n 1, 1) := by decide +kernel
theorem dX6_shareNames_9 : decode cX6_shareNames 9 = .ok (.getfield 50, 3) := by decide +kernel
theorem dX6_shareNames_12 : decode cX6_shareNames 12 = .ok (.getfield 54, 3) := by decide +kernel
theorem dX6_shareNames_15 : decode cX6_shareNames 15 = .ok (.if_icmp .ge 57, 3) := by decide +kernel
theorem dX6_shareNames_18 : decode cX6_shareNames 18 = .ok (.aload_n 0, 1) := by decide +kernel
theorem dX6_shareNames_19 : decode cX6_shareNames 19 = .ok (.getfield 24, 3) := by decide +kernel
theorem dX6_shareNames_22 : decode cX6_shareNames 22 = .ok (.iload_n 2, 1) := by decide +kernel
theorem dX6_shareNames_23 : decode cX6_shareNames 23 = .ok (.aload_n 1, 1) := by decide +kernel
theorem dX6_shareNames_24 : decode cX6_shareNames 24 = .ok (.aload_n 0, 1) := by decide +kernel
theorem dX6_shareNames_25 : decode cX6_shareNames 25 = .ok (.getfield 9, 3) := by decide +kernel
theorem dX6_shareNames_28 : decode cX6_shareNames 28 = .ok (.iconst 1, 1) := by decide +kernel
theorem dX6_shareNames_29 : decode cX6_shareNames 29 = .ok (.iload_n 2, 1) := by decide +kernel
theorem dX6_shareNames_30 : decode cX6_shareNames 30 = .ok (.ishl, 1) := by decide +kernel
theorem dX6_shareNames_31 : decode cX6_shareNames 31 = .ok (.invokevirtual 66, 3) := by decide +kernel
theorem dX6_shareNames_34 : decode cX6_shareNames 34 = .ok (.ifCond .ne 7, 3) := by decide +kernel
theorem dX6_shareNames_37 : decode cX6_shareNames 37 = .ok (.iconst (-1), 1) := by decide +kernel
theorem dX6_shareNames_38 : decode cX6_shareNames 38 = .ok (.goto 8, 3) := by decide +kernel
theorem dX6_shareNames_41 : decode cX6_shareNames 41 = .ok (.aload_n 0, 1) := by decide +kernel
theorem dX6_shareNames_42 : decode cX6_shareNames 42 = .ok (.iload_n 2, 1) := by decide +kernel
theorem dX6_shareNames_43 : decode cX6_shareNames 43 = .ok (.invokevirtual 70, 3) := by decide +kernel
theorem dX6_shareNames_46 : decode cX6_shareNames 46 = .ok (.iastore, 1) := by decide +kernel
theorem dX6_shareNames_47 : decode cX6_shareNames 47 = .ok (.aload_n 0, 1) := by decide +kernel
theorem dX6_shareNames_48 : decode cX6_shareNames 48 = .ok (.aload_n 0, 1) := by decide +kernel
theorem dX6_shareNames_49 : decode cX6_shareNames 49 = .ok (.getfield 63, 3) := by decide +kernel
theorem dX6_shareNames_52 : decode cX6_shareNames 52 = .ok (.aload_n 0, 1) := by decide +kernel
theorem dX6_shareNames_53 : decode cX6_shareNames 53 = .ok (.getfield 24, 3) := by decide +kernel
theorem dX6_shareNames_56 : decode cX6_shareNames 56 = .ok (.iload_n 2, 1) := by decide +kernel
theorem dX6_shareNames_57 : decode cX6_shareNames 57 = .ok (.iaload, 1) := by decide +kernel
theorem dX6_shareNames_58 : decode cX6_shareNames 58 = .ok (.iconst 1, 1) := by decide +kernel
theorem dX6_shareNames_59 : decode cX6_shareNames 59 = .ok (.iadd, 1) := by decide +kernel
theorem dX6_shareNames_60 : decode cX6_shareNames 60 = .ok (.invokestatic 74, 3) := by decide +kernel
theorem dX6_shareNames_63 : decode cX6_shareNames 63 = .ok (.putfield 63, 3) := by decide +kernel
theorem dX6_shareNames_66 : decode cX6_shareNames 66 = .ok (.iinc 2 1, 3) := by decide +kernel
theorem dX6_shareNames_69 : decode cX6_shareNames 69 = .ok (.goto (-62), 3) := by decide +kernel
theorem dX6_shareNames_72 : decode cX6_shareNames 72 = .ok (.return_, 1) := by decide +kernel
theorem dX6_firstFreeName_0 : decode cX6_firstFreeName 0 = .ok (.iconst 0, 1) := by decide +kernel
theorem dX6_firstFreeName_1 : decode cX6_firstFreeName 1 = .ok (.istore_n 2, 1) := by decide +kernel
theorem dX6_firstFreeName_2 : decode cX6_firstFreeName 2 = .ok (.iconst 0, 1) := by decide +kernel
theorem dX6_firstFreeName_3 : decode cX6_firstFreeName 3 = .ok (.istore_n 3, 1) := by decide +kernel
theorem dX6_firstFreeName_4 : decode cX6_firstFreeName 4 = .ok (.iload_n 3, 1) := by decide +kernel
theorem dX6_firstFreeName_5 : decode cX6_firstFreeName 5 = .ok (.iload_n 1, 1) := by decide +kernel
theorem dX6_firstFreeName_6 : decode cX6_firstFreeName 6 = .ok (.if_icmp .ge 44, 3) := by decide +kernel
theorem dX6_firstFreeName_9 : decode cX6_firstFreeName 9 = .ok (.aload_n 0, 1) := by decide +kernel
theorem dX6_firstFreeName_10 : decode cX6_firstFreeName 10 = .ok (.getfield 21, 3) := by decide +kernel
theorem dX6_firstFreeName_13 : decode cX6_firstFreeName 13 = .ok (.iload_n 1, 1) := by decide +kernel
theorem dX6_firstFreeName_14 : decode cX6_firstFreeName 14 = .ok (.iaload, 1) := by decide +kernel
theorem dX6_firstFreeName_15 : decode cX6_firstFreeName 15 = .ok (.iload_n 3, 1) := by decide +kernel
theorem dX6_firstFreeName_16 : decode cX6_firstFreeName 16 = .ok (.invokestatic 59, 3) := by decide +kernel
theorem dX6_firstFreeName_19 : decode cX6_firstFreeName 19 = .ok (.iconst 1, 1) := by decide +kernel
theorem dX6_firstFreeName_20 : decode cX6_firstFreeName 20 = .ok (.if_icmp .ne 24, 3) := by decide +kernel
theorem dX6_firstFreeName_23 : decode cX6_firstFreeName 23 = .ok (.aload_n 0, 1) := by decide +kernel
theorem dX6_firstFreeName_24 : decode cX6_firstFreeName 24 = .ok (.getfield 24, 3) := by decide +kernel
theorem dX6_firstFreeName_27 : decode cX6_firstFreeName 27 = .ok (.iload_n 3, 1) := by decide +kernel
theorem dX6_firstFreeName_28 : decode cX6_firstFreeName 28 = .ok (.iaload, 1) := by decide +kernel
theorem dX6_firstFreeName_29 : decode cX6_firstFreeName 29 = .ok (.iconst (-1), 1) := by decide +kernel
theorem dX6_firstFreeName_30 : decode cX6_firstFreeName 30 = .ok (.if_icmp .eq 14, 3) := by decide +kernel
theorem dX6_firstFreeName_33 : decode cX6_firstFreeName 33 = .ok (.iload_n 2, 1) := by decide +kernel
theorem dX6_firstFreeName_34 : decode cX6_firstFreeName 34 = .ok (.iconst 1, 1) := by decide +kernel
theorem dX6_firstFreeName_35 : decode cX6_firstFreeName 35 = .ok (.aload_n 0, 1) := by decide +kernel
theorem dX6_firstFreeName_36 : decode cX6_firstFreeName 36 = .ok (.getfield 24, 3) := by decide +kernel
theorem dX6_firstFreeName_39 : decode cX6_firstFreeName 39 = .ok (.iload_n 3, 1) := by decide +kernel
theorem dX6_firstFreeName_40 : decode cX6_firstFreeName 40 = .ok (.iaload, 1) := by decide +kernel
theorem dX6_firstFreeName_41 : decode cX6_firstFreeName 41 = .ok (.ishl, 1) := by decide +kernel
theorem dX6_firstFreeName_42 : decode cX6_firstFreeName 42 = .ok (.ior, 1) := by decide +kernel
theorem dX6_firstFreeName_43 : decode cX6_firstFreeName 43 = .ok (.istore_n 2, 1) := by decide +kernel
theorem dX6_firstFreeName_44 : decode cX6_firstFreeName 44 = .ok (.iinc 3 1, 3) := by decide +kernel
theorem dX6_firstFreeName_47 : decode cX6_firstFreeName 47 = .ok (.goto (-43), 3) := by decide +kernel
theorem dX6_firstFreeName_50 : decode cX6_firstFreeName 50 = .ok (.iconst 0, 1) := by decide +kernel
theorem dX6_firstFreeName_51 : decode cX6_firstFreeName 51 = .ok (.istore_n 3, 1) := by decide +kernel
theorem dX6_firstFreeName_52 : decode cX6_firstFreeName 52 = .ok (.iload_n 3, 1) := by decide +kernel
theorem dX6_firstFreeName_53 : decode cX6_firstFreeName 53 = .ok (.bipush 24, 2) := by decide +kernel
theorem dX6_firstFreeName_55 : decode cX6_firstFreeName 55 = .ok (.if_icmp .ge 18, 3) := by decide +kernel
theorem dX6_firstFreeName_58 : decode cX6_firstFreeName 58 = .ok (.iload_n 2, 1) := by decide +kernel
theorem dX6_firstFreeName_59 : decode cX6_firstFreeName 59 = .ok (.iload_n 3, 1) := by decide +kernel
theorem dX6_firstFreeName_60 : decode cX6_firstFreeName 60 = .ok (.invokestatic 59, 3) := by decide +kernel
theorem dX6_firstFreeName_63 : decode cX6_firstFreeName 63 = .ok (.iconst 1, 1) := by decide +kernel
theorem dX6_firstFreeName_64 : decode cX6_firstFreeName 64 = .ok (.if_icmp .ne 9, 3) := by decide +kernel
theorem dX6_firstFreeName_67 : decode cX6_firstFreeName 67 = .ok (.iinc 3 1, 3) := by decide +kernel
theorem dX6_firstFreeName_70 : decode cX6_firstFreeName 70 = .ok (.goto (-18), 3) := by decide +kernel
theorem dX6_firstFreeName_73 : decode cX6_firstFreeName 73 = .ok (.iload_n 3, 1) := by decide +kernel
theorem dX6_firstFreeName_74 : decode cX6_firstFreeName 74 = .ok (.ireturn, 1) := by decide +kernel
theorem dX6_clashingPairs_0 : decode cX6_clashingPairs 0 = .ok (.iconst 0, 1) := by decide +kernel
theorem dX6_clashingPairs_1 : decode cX6_clashingPairs 1 = .ok (.istore_n 2, 1) := by decide +kernel
theorem dX6_clashingPairs_2 : decode cX6_clashingPairs 2 = .ok (.iconst 0, 1) := by decide +kernel
theorem dX6_clashingPairs_3 : decode cX6_clashingPairs 3 = .ok (.istore_n 3, 1) := by decide +kernel
theorem dX6_clashingPairs_4 : decode cX6_clashingPairs 4 = .ok (.iload_n 3, 1) := by decide +kernel
theorem dX6_clashingPairs_5 : decode cX6_clashingPairs 5 = .ok (.iload_n 1, 1) := by decide +kernel
theorem dX6_clashingPairs_6 : decode cX6_clashingPairs 6 = .ok (.if_icmp .ge 27, 3) := by decide +kernel
theorem dX6_clashingPairs_9 : decode cX6_clashingPairs 9 = .ok (.iload_n 3, 1) := by decide +kernel
theorem dX6_clashingPairs_10 : decode cX6_clashingPairs 10 = .ok (.bipush 24, 2) := by decide +kernel
theorem dX6_clashingPairs_12 : decode cX6_clashingPairs 12 = .ok (.if_icmp .ge 21, 3) := by decide +kernel
theorem dX6_clashingPairs_15 : decode cX6_clashingPairs 15 = .ok (.iload_n 2, 1) := by decide +kernel
theorem dX6_clashingPairs_16 : decode cX6_clashingPairs 16 = .ok (.aload_n 0, 1) := by decide +kernel
theorem dX6_clashingPairs_17 : decode cX6_clashingPairs 17 = .ok (.getfield 21, 3) := by decide +kernel
theorem dX6_clashingPairs_20 : decode cX6_clashingPairs 20 = .ok (.iload_n 3, 1) := by decide +kernel
theorem dX6_clashingPairs_21 : decode cX6_clashingPairs 21 = .ok (.iaload, 1) := by decide +kernel
theorem dX6_clashingPairs_22 : decode cX6_clashingPairs 22 = .ok (.invokestatic 79, 3) := by decide +kernel
theorem dX6_clashingPairs_25 : decode cX6_clashingPairs 25 = .ok (.iadd, 1) := by decide +kernel
theorem dX6_clashingPairs_26 : decode cX6_clashingPairs 26 = .ok (.istore_n 2, 1) := by decide +kernel
theorem dX6_clashingPairs_27 : decode cX6_clashingPairs 27 = .ok (.iinc 3 1, 3) := by decide +kernel
theorem dX6_clashingPairs_30 : decode cX6_clashingPairs 30 = .ok (.goto (-26), 3) := by decide +kernel
theorem dX6_clashingPairs_33 : decode cX6_clashingPairs 33 = .ok (.iload_n 2, 1) := by decide +kernel
theorem dX6_clashingPairs_34 : decode cX6_clashingPairs 34 = .ok (.iconst 2, 1) := by decide +kernel
theorem dX6_clashingPairs_35 : decode cX6_clashingPairs 35 = .ok (.idiv, 1) := by decide +kernel
theorem dX6_clashingPairs_36 : decode cX6_clashingPairs 36 = .ok (.ireturn, 1) := by decide +kernel
theorem dX6_computedAt_0 : decode cX6_computedAt 0 = .ok (.aload_n 1, 1) := by decide +kernel
theorem dX6_computedAt_1 : decode cX6_computedAt 1 = .ok (.getfield 84, 3) := by decide +kernel
theorem dX6_computedAt_4 : decode cX6_computedAt 4 = .ok (.iload_n 2, 1) := by decide +kernel
theorem dX6_computedAt_5 : decode cX6_computedAt 5 = .ok (.iaload, 1) := by decide +kernel
theorem dX6_computedAt_6 : decode cX6_computedAt 6 = .ok (.iconst 2, 1) := by decide +kernel
theorem dX6_computedAt_7 : decode cX6_computedAt 7 = .ok (.if_icmp .ne 16, 3) := by decide +kernel
theorem dX6_computedAt_10 : decode cX6_computedAt 10 = .ok (.aload_n 0, 1) := by decide +kernel
theorem dX6_computedAt_11 : decode cX6_computedAt 11 = .ok (.getfield 15, 3) := by decide +kernel
theorem dX6_computedAt_14 : decode cX6_computedAt 14 = .ok (.iload_n 2, 1) := by decide +kernel
theorem dX6_computedAt_15 : decode cX6_computedAt 15 = .ok (.iaload, 1) := by decide +kernel
theorem dX6_computedAt_16 : decode cX6_computedAt 16 = .ok (.ifCond .ne 7, 3) := by decide +kernel
theorem dX6_computedAt_19 : decode cX6_computedAt 19 = .ok (.iconst 1, 1) := by decide +kernel
theorem dX6_computedAt_20 : decode cX6_computedAt 20 = .ok (.goto 4, 3) := by decide +kernel
theorem dX6_computedAt_23 : decode cX6_computedAt 23 = .ok (.iconst 0, 1) := by decide +kernel
theorem dX6_computedAt_24 : decode cX6_computedAt 24 = .ok (.istore_n 3, 1) := by decide +kernel
theorem dX6_computedAt_25 : decode cX6_computedAt 25 = .ok (.aload_n 0, 1) := by decide +kernel
theorem dX6_computedAt_26 : decode cX6_computedAt 26 = .ok (.getfield 9, 3) := by decide +kernel
theorem dX6_computedAt_29 : decode cX6_computedAt 29 = .ok (.iload_n 2, 1) := by decide +kernel
theorem dX6_computedAt_30 : decode cX6_computedAt 30 = .ok (.iaload, 1) := by decide +kernel
theorem dX6_computedAt_31 : decode cX6_computedAt 31 = .ok (.invokestatic 79, 3) := by decide +kernel
theorem dX6_computedAt_34 : decode cX6_computedAt 34 = .ok (.iload_n 3, 1) := by decide +kernel
theorem dX6_computedAt_35 : decode cX6_computedAt 35 = .ok (.invokestatic 87, 3) := by decide +kernel
theorem dX6_computedAt_38 : decode cX6_computedAt 38 = .ok (.iadd, 1) := by decide +kernel
theorem dX6_computedAt_39 : decode cX6_computedAt 39 = .ok (.ireturn, 1) := by decide +kernel
theorem dX7_init_0 : decode cX7_init 0 = .ok (.aload_n 0, 1) := by decide +kernel
theorem dX7_init_1 : decode cX7_init 1 = .ok (.invokespecial 3, 3) := by decide +kernel
theorem dX7_init_4 : decode cX7_init 4 = .ok (.aload_n 0, 1) := by decide +kernel
theorem dX7_init_5 : decode cX7_init 5 = .ok (.new 9, 3) := by decide +kernel
theorem dX7_init_8 : decode cX7_init 8 = .ok (.dup, 1) := by decide +kernel
theorem dX7_init_9 : decode cX7_init 9 = .ok (.invokespecial 11, 3) := by decide +kernel
theorem dX7_init_12 : decode cX7_init 12 = .ok (.putfield 12, 3) := by decide +kernel
theorem dX7_init_15 : decode cX7_init 15 = .ok (.aload_n 0, 1) := by decide +kernel
theorem dX7_init_16 : decode cX7_init 16 = .ok (.new 18, 3) := by decide +kernel
theorem dX7_init_19 : decode cX7_init 19 = .ok (.dup, 1) := by decide +kernel
theorem dX7_init_20 : decode cX7_init 20 = .ok (.invokespecial 20, 3) := by decide +kernel
theorem dX7_init_23 : decode cX7_init 23 = .ok (.putfield 21, 3) := by decide +kernel
theorem dX7_init_26 : decode cX7_init 26 = .ok (.aload_n 0, 1) := by decide +kernel
theorem dX7_init_27 : decode cX7_init 27 = .ok (.bipush 76, 2) := by decide +kernel
theorem dX7_init_29 : decode cX7_init 29 = .ok (.newarray .int, 2) := by decide +kernel
theorem dX7_init_31 : decode cX7_init 31 = .ok (.putfield 25, 3) := by decide +kernel
theorem dX7_init_34 : decode cX7_init 34 = .ok (.aload_n 0, 1) := by decide +kernel
theorem dX7_init_35 : decode cX7_init 35 = .ok (.bipush 76, 2) := by decide +kernel
theorem dX7_init_37 : decode cX7_init 37 = .ok (.newarray .int, 2) := by decide +kernel
theorem dX7_init_39 : decode cX7_init 39 = .ok (.putfield 29, 3) := by decide +kernel
theorem dX7_init_42 : decode cX7_init 42 = .ok (.aload_n 0, 1) := by decide +kernel
theorem dX7_init_43 : decode cX7_init 43 = .ok (.bipush 76, 2) := by decide +kernel
theorem dX7_init_45 : decode cX7_init 45 = .ok (.newarray .int, 2) := by decide +kernel
theorem dX7_init_47 : decode cX7_init 47 = .ok (.putfield 32, 3) := by decide +kernel
theorem dX7_init_50 : decode cX7_init 50 = .ok (.aload_n 0, 1) := by decide +kernel
theorem dX7_init_51 : decode cX7_init 51 = .ok (.bipush 76, 2) := by decide +kernel
theorem dX7_init_53 : decode cX7_init 53 = .ok (.newarray .int, 2) := by decide +kernel
theorem dX7_init_55 : decode cX7_init 55 = .ok (.putfield 35, 3) := by decide +kernel
theorem dX7_init_58 : decode cX7_init 58 = .ok (.aload_n 0, 1) := by decide +kernel
theorem dX7_init_59 : decode cX7_init 59 = .ok (.bipush 76, 2) := by decide +kernel
theorem dX7_init_61 : decode cX7_init 61 = .ok (.newarray .int, 2) := by decide +kernel
theorem dX7_init_63 : decode cX7_init 63 = .ok (.putfield 38, 3) := by decide +kernel
theorem dX7_init_66 : decode cX7_init 66 = .ok (.aload_n 0, 1) := by decide +kernel
theorem dX7_init_67 : decode cX7_init 67 = .ok (.bipush 76, 2) := by decide +kernel
theorem dX7_init_69 : decode cX7_init 69 = .ok (.newarray .int, 2) := by decide +kernel
theorem dX7_init_71 : decode cX7_init 71 = .ok (.putfield 41, 3) := by decide +kernel
theorem dX7_init_74 : decode cX7_init 74 = .ok (.aload_n 0, 1) := by decide +kernel
theorem dX7_init_75 : decode cX7_init 75 = .ok (.bipush 76, 2) := by decide +kernel
theorem dX7_init_77 : decode cX7_init 77 = .ok (.newarray .int, 2) := by decide +kernel
theorem dX7_init_79 : decode cX7_init 79 = .ok (.putfield 44, 3) := by decide +kernel
theorem dX7_init_82 : decode cX7_init 82 = .ok (.aload_n 0, 1) := by decide +kernel
theorem dX7_init_83 : decode cX7_init 83 = .ok (.bipush 76, 2) := by decide +kernel
theorem dX7_init_85 : decode cX7_init 85 = .ok (.newarray .int, 2) := by decide +kernel
theorem dX7_init_87 : decode cX7_init 87 = .ok (.putfield 47, 3) := by decide +kernel
theorem dX7_init_90 : decode cX7_init 90 = .ok (.aload_n 0, 1) := by decide +kernel
theorem dX7_init_91 : decode cX7_init 91 = .ok (.bipush 76, 2) := by decide +kernel
theorem dX7_init_93 : decode cX7_init 93 = .ok (.newarray .int, 2) := by decide +kernel
theorem dX7_init_95 : decode cX7_init 95 = .ok (.putfield 50, 3) := by decide +kernel
theorem dX7_init_98 : decode cX7_init 98 = .ok (.return_, 1) := by decide +kernel
theorem dX7_faultOf_0 : decode cX7_faultOf 0 = .ok (.aload_n 0, 1) := by decide +kernel
theorem dX7_faultOf_1 : decode cX7_faultOf 1 = .ok (.getfield 12, 3) := by decide +kernel
theorem dX7_faultOf_4 : decode cX7_faultOf 4 = .ok (.aload_n 1, 1) := by decide +kernel
theorem dX7_faultOf_5 : decode cX7_faultOf 5 = .ok (.invokevirtual 53, 3) := by decide +kernel
theorem dX7_faultOf_8 : decode cX7_faultOf 8 = .ok (.aload_n 0, 1) := by decide +kernel
theorem dX7_faultOf_9 : decode cX7_faultOf 9 = .ok (.getfield 21, 3) := by decide +kernel
theorem dX7_faultOf_12 : decode cX7_faultOf 12 = .ok (.iconst 0, 1) := by decide +kernel
theorem dX7_faultOf_13 : decode cX7_faultOf 13 = .ok (.putfield 57, 3) := by decide +kernel
theorem dX7_faultOf_16 : decode cX7_faultOf 16 = .ok (.aload_n 0, 1) := by decide +kernel
theorem dX7_faultOf_17 : decode cX7_faultOf 17 = .ok (.iconst 0, 1) := by decide +kernel
theorem dX7_faultOf_18 : decode cX7_faultOf 18 = .ok (.putfield 61, 3) := by decide +kernel
theorem dX7_faultOf_21 : decode cX7_faultOf 21 = .ok (.aload_n 0, 1) := by decide +kernel
theorem dX7_faultOf_22 : decode cX7_faultOf 22 = .ok (.iconst 0, 1) := by decide +kernel
theorem dX7_faultOf_23 : decode cX7_faultOf 23 = .ok (.putfield 64, 3) := by decide +kernel
theorem dX7_faultOf_26 : decode cX7_faultOf 26 = .ok (.aload_n 0, 1) := by decide +kernel
theorem dX7_faultOf_27 : decode cX7_faultOf 27 = .ok (.iconst 0, 1) := by decide +kernel
theorem dX7_faultOf_28 : decode cX7_faultOf 28 = .ok (.putfield 67, 3) := by decide +kernel
theorem dX7_faultOf_31 : decode cX7_faultOf 31 = .ok (.aload_n 0, 1) := by decide +kernel
theorem dX7_faultOf_32 : decode cX7_faultOf 32 = .ok (.iconst 0, 1) := by decide +kernel
theorem dX7_faultOf_33 : decode cX7_faultOf 33 = .ok (.putfield 70, 3) := by decide +kernel
theorem dX7_faultOf_36 : decode cX7_faultOf 36 = .ok (.aload_n 0, 1) := by decide +kernel
theorem dX7_faultOf_37 : decode cX7_faultOf 37 = .ok (.aload_n 0, 1) := by decide +kernel
theorem dX7_faultOf_38 : decode cX7_faultOf 38 = .ok (.getfield 12, 3) := by decide +kernel
theorem dX7_faultOf_41 : decode cX7_faultOf 41 = .ok (.invokevirtual 73, 3) := by decide +kernel
theorem dX7_faultOf_44 : decode cX7_faultOf 44 = .ok (.ifCond .ne 7, 3) := by decide +kernel
theorem dX7_faultOf_47 : decode cX7_faultOf 47 = .ok (.iconst 0, 1) := by decide +kernel
theorem dX7_faultOf_48 : decode cX7_faultOf 48 = .ok (.goto 4, 3) := by decide +kernel
theorem dX7_faultOf_51 : decode cX7_faultOf 51 = .ok (.iconst (-1), 1) := by decide +kernel
theorem dX7_faultOf_52 : decode cX7_faultOf 52 = .ok (.putfield 77, 3) := by decide +kernel
theorem dX7_faultOf_55 : decode cX7_faultOf 55 = .ok (.iconst 0, 1) := by decide +kernel
theorem dX7_faultOf_56 : decode cX7_faultOf 56 = .ok (.istore_n 2, 1) := by decide +kernel
theorem dX7_faultOf_57 : decode cX7_faultOf 57 = .ok (.iload_n 2, 1) := by decide +kernel
theorem dX7_faultOf_58 : decode cX7_faultOf 58 = .ok (.sipush 800, 3) := by decide +kernel
theorem dX7_faultOf_61 : decode cX7_faultOf 61 = .ok (.if_icmp .ge 36, 3) := by decide +kernel
theorem dX7_faultOf_64 : decode cX7_faultOf 64 = .ok (.aload_n 0, 1) := by decide +kernel
theorem dX7_faultOf_65 : decode cX7_faultOf 65 = .ok (.getfield 77, 3) := by decide +kernel
theorem dX7_faultOf_68 : decode cX7_faultOf 68 = .ok (.iconst (-1), 1) := by decide +kernel
theorem dX7_faultOf_69 : decode cX7_faultOf 69 = .ok (.if_icmp .ne 28, 3) := by decide +kernel
theorem dX7_faultOf_72 : decode cX7_faultOf 72 = .ok (.aload_n 0, 1) := by decide +kernel
theorem dX7_faultOf_73 : decode cX7_faultOf 73 = .ok (.getfield 70, 3) := by decide +kernel
theorem dX7_faultOf_76 : decode cX7_faultOf 76 = .ok (.aload_n 0, 1) := by decide +kernel
theorem dX7_faultOf_77 : decode cX7_faultOf 77 = .ok (.getfield 12, 3) := by decide +kernel
theorem dX7_faultOf_80 : decode cX7_faultOf 80 = .ok (.invokevirtual 73, 3) := by decide +kernel
theorem dX7_faultOf_83 : decode cX7_faultOf 83 = .ok (.if_icmp .ge 14, 3) := by decide +kernel
