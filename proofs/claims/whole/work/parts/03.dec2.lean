theorem dX7_faultOf_86 : decode cX7_faultOf 86 = .ok (.aload_n 0, 1) := by decide +kernel
theorem dX7_faultOf_87 : decode cX7_faultOf 87 = .ok (.invokevirtual 80, 3) := by decide +kernel
theorem dX7_faultOf_90 : decode cX7_faultOf 90 = .ok (.pop, 1) := by decide +kernel
theorem dX7_faultOf_91 : decode cX7_faultOf 91 = .ok (.iinc 2 1, 3) := by decide +kernel
theorem dX7_faultOf_94 : decode cX7_faultOf 94 = .ok (.goto (-37), 3) := by decide +kernel
theorem dX7_faultOf_97 : decode cX7_faultOf 97 = .ok (.aload_n 0, 1) := by decide +kernel
theorem dX7_faultOf_98 : decode cX7_faultOf 98 = .ok (.getfield 77, 3) := by decide +kernel
theorem dX7_faultOf_101 : decode cX7_faultOf 101 = .ok (.iconst (-1), 1) := by decide +kernel
theorem dX7_faultOf_102 : decode cX7_faultOf 102 = .ok (.if_icmp .ne 7, 3) := by decide +kernel
theorem dX7_faultOf_105 : decode cX7_faultOf 105 = .ok (.aload_n 0, 1) := by decide +kernel
theorem dX7_faultOf_106 : decode cX7_faultOf 106 = .ok (.invokevirtual 84, 3) := by decide +kernel
theorem dX7_faultOf_109 : decode cX7_faultOf 109 = .ok (.aload_n 0, 1) := by decide +kernel
theorem dX7_faultOf_110 : decode cX7_faultOf 110 = .ok (.getfield 77, 3) := by decide +kernel
theorem dX7_faultOf_113 : decode cX7_faultOf 113 = .ok (.ireturn, 1) := by decide +kernel
theorem dX7_refuse_0 : decode cX7_refuse 0 = .ok (.aload_n 0, 1) := by decide +kernel
theorem dX7_refuse_1 : decode cX7_refuse 1 = .ok (.iload_n 1, 1) := by decide +kernel
theorem dX7_refuse_2 : decode cX7_refuse 2 = .ok (.putfield 77, 3) := by decide +kernel
theorem dX7_refuse_5 : decode cX7_refuse 5 = .ok (.iconst 0, 1) := by decide +kernel
theorem dX7_refuse_6 : decode cX7_refuse 6 = .ok (.ireturn, 1) := by decide +kernel
theorem dX7_take_0 : decode cX7_take 0 = .ok (.aload_n 0, 1) := by decide +kernel
theorem dX7_take_1 : decode cX7_take 1 = .ok (.getfield 12, 3) := by decide +kernel
theorem dX7_take_4 : decode cX7_take 4 = .ok (.aload_n 0, 1) := by decide +kernel
theorem dX7_take_5 : decode cX7_take 5 = .ok (.getfield 70, 3) := by decide +kernel
theorem dX7_take_8 : decode cX7_take 8 = .ok (.invokevirtual 87, 3) := by decide +kernel
theorem dX7_take_11 : decode cX7_take 11 = .ok (.iload_n 1, 1) := by decide +kernel
theorem dX7_take_12 : decode cX7_take 12 = .ok (.if_icmp .eq 12, 3) := by decide +kernel
theorem dX7_take_15 : decode cX7_take 15 = .ok (.aload_n 0, 1) := by decide +kernel
theorem dX7_take_16 : decode cX7_take 16 = .ok (.aload_n 0, 1) := by decide +kernel
theorem dX7_take_17 : decode cX7_take 17 = .ok (.getfield 70, 3) := by decide +kernel
theorem dX7_take_20 : decode cX7_take 20 = .ok (.invokevirtual 90, 3) := by decide +kernel
theorem dX7_take_23 : decode cX7_take 23 = .ok (.ireturn, 1) := by decide +kernel
theorem dX7_take_24 : decode cX7_take 24 = .ok (.aload_n 0, 1) := by decide +kernel
theorem dX7_take_25 : decode cX7_take 25 = .ok (.dup, 1) := by decide +kernel
theorem dX7_take_26 : decode cX7_take 26 = .ok (.getfield 70, 3) := by decide +kernel
theorem dX7_take_29 : decode cX7_take 29 = .ok (.iconst 1, 1) := by decide +kernel
theorem dX7_take_30 : decode cX7_take 30 = .ok (.iadd, 1) := by decide +kernel
theorem dX7_take_31 : decode cX7_take 31 = .ok (.putfield 70, 3) := by decide +kernel
theorem dX7_take_34 : decode cX7_take 34 = .ok (.iconst 1, 1) := by decide +kernel
theorem dX7_take_35 : decode cX7_take 35 = .ok (.ireturn, 1) := by decide +kernel
theorem dX7_readBlock_0 : decode cX7_readBlock 0 = .ok (.aload_n 0, 1) := by decide +kernel
theorem dX7_readBlock_1 : decode cX7_readBlock 1 = .ok (.getfield 64, 3) := by decide +kernel
theorem dX7_readBlock_4 : decode cX7_readBlock 4 = .ok (.bipush 16, 2) := by decide +kernel
theorem dX7_readBlock_6 : decode cX7_readBlock 6 = .ok (.if_icmp .lt 12, 3) := by decide +kernel
theorem dX7_readBlock_9 : decode cX7_readBlock 9 = .ok (.aload_n 0, 1) := by decide +kernel
theorem dX7_readBlock_10 : decode cX7_readBlock 10 = .ok (.aload_n 0, 1) := by decide +kernel
theorem dX7_readBlock_11 : decode cX7_readBlock 11 = .ok (.getfield 70, 3) := by decide +kernel
theorem dX7_readBlock_14 : decode cX7_readBlock 14 = .ok (.invokevirtual 90, 3) := by decide +kernel
theorem dX7_readBlock_17 : decode cX7_readBlock 17 = .ok (.ireturn, 1) := by decide +kernel
theorem dX7_readBlock_18 : decode cX7_readBlock 18 = .ok (.iconst 0, 1) := by decide +kernel
theorem dX7_readBlock_19 : decode cX7_readBlock 19 = .ok (.istore_n 1, 1) := by decide +kernel
theorem dX7_readBlock_20 : decode cX7_readBlock 20 = .ok (.iload_n 1, 1) := by decide +kernel
theorem dX7_readBlock_21 : decode cX7_readBlock 21 = .ok (.bipush 60, 2) := by decide +kernel
theorem dX7_readBlock_23 : decode cX7_readBlock 23 = .ok (.if_icmp .gt 34, 3) := by decide +kernel
theorem dX7_readBlock_26 : decode cX7_readBlock 26 = .ok (.aload_n 0, 1) := by decide +kernel
theorem dX7_readBlock_27 : decode cX7_readBlock 27 = .ok (.invokevirtual 94, 3) := by decide +kernel
theorem dX7_readBlock_30 : decode cX7_readBlock 30 = .ok (.ifCond .eq 27, 3) := by decide +kernel
theorem dX7_readBlock_33 : decode cX7_readBlock 33 = .ok (.aload_n 0, 1) := by decide +kernel
theorem dX7_readBlock_34 : decode cX7_readBlock 34 = .ok (.invokevirtual 97, 3) := by decide +kernel
theorem dX7_readBlock_37 : decode cX7_readBlock 37 = .ok (.ifCond .eq 12, 3) := by decide +kernel
theorem dX7_readBlock_40 : decode cX7_readBlock 40 = .ok (.aload_n 0, 1) := by decide +kernel
theorem dX7_readBlock_41 : decode cX7_readBlock 41 = .ok (.bipush 59, 2) := by decide +kernel
theorem dX7_readBlock_43 : decode cX7_readBlock 43 = .ok (.invokevirtual 100, 3) := by decide +kernel
theorem dX7_readBlock_46 : decode cX7_readBlock 46 = .ok (.ifCond .ne 5, 3) := by decide +kernel
theorem dX7_readBlock_49 : decode cX7_readBlock 49 = .ok (.iconst 0, 1) := by decide +kernel
theorem dX7_readBlock_50 : decode cX7_readBlock 50 = .ok (.ireturn, 1) := by decide +kernel
theorem dX7_readBlock_51 : decode cX7_readBlock 51 = .ok (.iinc 1 1, 3) := by decide +kernel
theorem dX7_readBlock_54 : decode cX7_readBlock 54 = .ok (.goto (-34), 3) := by decide +kernel
theorem dX7_readBlock_57 : decode cX7_readBlock 57 = .ok (.aload_n 0, 1) := by decide +kernel
theorem dX7_readBlock_58 : decode cX7_readBlock 58 = .ok (.invokevirtual 103, 3) := by decide +kernel
theorem dX7_readBlock_61 : decode cX7_readBlock 61 = .ok (.ifCond .eq 12, 3) := by decide +kernel
theorem dX7_readBlock_64 : decode cX7_readBlock 64 = .ok (.aload_n 0, 1) := by decide +kernel
theorem dX7_readBlock_65 : decode cX7_readBlock 65 = .ok (.bipush 59, 2) := by decide +kernel
theorem dX7_readBlock_67 : decode cX7_readBlock 67 = .ok (.invokevirtual 100, 3) := by decide +kernel
theorem dX7_readBlock_70 : decode cX7_readBlock 70 = .ok (.ifCond .ne 5, 3) := by decide +kernel
theorem dX7_readBlock_73 : decode cX7_readBlock 73 = .ok (.iconst 0, 1) := by decide +kernel
theorem dX7_readBlock_74 : decode cX7_readBlock 74 = .ok (.ireturn, 1) := by decide +kernel
theorem dX7_readBlock_75 : decode cX7_readBlock 75 = .ok (.aload_n 0, 1) := by decide +kernel
theorem dX7_readBlock_76 : decode cX7_readBlock 76 = .ok (.dup, 1) := by decide +kernel
theorem dX7_readBlock_77 : decode cX7_readBlock 77 = .ok (.getfield 64, 3) := by decide +kernel
theorem dX7_readBlock_80 : decode cX7_readBlock 80 = .ok (.iconst 1, 1) := by decide +kernel
theorem dX7_readBlock_81 : decode cX7_readBlock 81 = .ok (.iadd, 1) := by decide +kernel
theorem dX7_readBlock_82 : decode cX7_readBlock 82 = .ok (.putfield 64, 3) := by decide +kernel
theorem dX7_readBlock_85 : decode cX7_readBlock 85 = .ok (.iconst 1, 1) := by decide +kernel
theorem dX7_readBlock_86 : decode cX7_readBlock 86 = .ok (.ireturn, 1) := by decide +kernel
theorem dX7_startsStatement_0 : decode cX7_startsStatement 0 = .ok (.aload_n 0, 1) := by decide +kernel
theorem dX7_startsStatement_1 : decode cX7_startsStatement 1 = .ok (.getfield 12, 3) := by decide +kernel
theorem dX7_startsStatement_4 : decode cX7_startsStatement 4 = .ok (.aload_n 0, 1) := by decide +kernel
theorem dX7_startsStatement_5 : decode cX7_startsStatement 5 = .ok (.getfield 70, 3) := by decide +kernel
theorem dX7_startsStatement_8 : decode cX7_startsStatement 8 = .ok (.invokevirtual 87, 3) := by decide +kernel
theorem dX7_startsStatement_11 : decode cX7_startsStatement 11 = .ok (.invokestatic 106, 3) := by decide +kernel
theorem dX7_startsStatement_14 : decode cX7_startsStatement 14 = .ok (.ifCond .ne 19, 3) := by decide +kernel
theorem dX7_startsStatement_17 : decode cX7_startsStatement 17 = .ok (.aload_n 0, 1) := by decide +kernel
theorem dX7_startsStatement_18 : decode cX7_startsStatement 18 = .ok (.getfield 12, 3) := by decide +kernel
theorem dX7_startsStatement_21 : decode cX7_startsStatement 21 = .ok (.aload_n 0, 1) := by decide +kernel
theorem dX7_startsStatement_22 : decode cX7_startsStatement 22 = .ok (.getfield 70, 3) := by decide +kernel
theorem dX7_startsStatement_25 : decode cX7_startsStatement 25 = .ok (.invokevirtual 87, 3) := by decide +kernel
theorem dX7_startsStatement_28 : decode cX7_startsStatement 28 = .ok (.bipush 33, 2) := by decide +kernel
theorem dX7_startsStatement_30 : decode cX7_startsStatement 30 = .ok (.if_icmp .ne 7, 3) := by decide +kernel
theorem dX7_startsStatement_33 : decode cX7_startsStatement 33 = .ok (.iconst 1, 1) := by decide +kernel
theorem dX7_startsStatement_34 : decode cX7_startsStatement 34 = .ok (.goto 4, 3) := by decide +kernel
theorem dX7_startsStatement_37 : decode cX7_startsStatement 37 = .ok (.iconst 0, 1) := by decide +kernel
theorem dX7_startsStatement_38 : decode cX7_startsStatement 38 = .ok (.ireturn, 1) := by decide +kernel
theorem dX7_readStatement_0 : decode cX7_readStatement 0 = .ok (.aload_n 0, 1) := by decide +kernel
theorem dX7_readStatement_1 : decode cX7_readStatement 1 = .ok (.getfield 67, 3) := by decide +kernel
theorem dX7_readStatement_4 : decode cX7_readStatement 4 = .ok (.bipush 60, 2) := by decide +kernel
theorem dX7_readStatement_6 : decode cX7_readStatement 6 = .ok (.if_icmp .lt 12, 3) := by decide +kernel
theorem dX7_readStatement_9 : decode cX7_readStatement 9 = .ok (.aload_n 0, 1) := by decide +kernel
theorem dX7_readStatement_10 : decode cX7_readStatement 10 = .ok (.aload_n 0, 1) := by decide +kernel
theorem dX7_readStatement_11 : decode cX7_readStatement 11 = .ok (.getfield 70, 3) := by decide +kernel
theorem dX7_readStatement_14 : decode cX7_readStatement 14 = .ok (.invokevirtual 90, 3) := by decide +kernel
theorem dX7_readStatement_17 : decode cX7_readStatement 17 = .ok (.ireturn, 1) := by decide +kernel
theorem dX7_readStatement_18 : decode cX7_readStatement 18 = .ok (.aload_n 0, 1) := by decide +kernel
theorem dX7_readStatement_19 : decode cX7_readStatement 19 = .ok (.dup, 1) := by decide +kernel
theorem dX7_readStatement_20 : decode cX7_readStatement 20 = .ok (.getfield 67, 3) := by decide +kernel
theorem dX7_readStatement_23 : decode cX7_readStatement 23 = .ok (.iconst 1, 1) := by decide +kernel
theorem dX7_readStatement_24 : decode cX7_readStatement 24 = .ok (.iadd, 1) := by decide +kernel
theorem dX7_readStatement_25 : decode cX7_readStatement 25 = .ok (.putfield 67, 3) := by decide +kernel
theorem dX7_readStatement_28 : decode cX7_readStatement 28 = .ok (.aload_n 0, 1) := by decide +kernel
theorem dX7_readStatement_29 : decode cX7_readStatement 29 = .ok (.getfield 12, 3) := by decide +kernel
theorem dX7_readStatement_32 : decode cX7_readStatement 32 = .ok (.aload_n 0, 1) := by decide +kernel
theorem dX7_readStatement_33 : decode cX7_readStatement 33 = .ok (.getfield 70, 3) := by decide +kernel
theorem dX7_readStatement_36 : decode cX7_readStatement 36 = .ok (.invokevirtual 87, 3) := by decide +kernel
theorem dX7_readStatement_39 : decode cX7_readStatement 39 = .ok (.istore_n 1, 1) := by decide +kernel
theorem dX7_readStatement_40 : decode cX7_readStatement 40 = .ok (.aload_n 0, 1) := by decide +kernel
theorem dX7_readStatement_41 : decode cX7_readStatement 41 = .ok (.dup, 1) := by decide +kernel
theorem dX7_readStatement_42 : decode cX7_readStatement 42 = .ok (.getfield 70, 3) := by decide +kernel
theorem dX7_readStatement_45 : decode cX7_readStatement 45 = .ok (.iconst 1, 1) := by decide +kernel
theorem dX7_readStatement_46 : decode cX7_readStatement 46 = .ok (.iadd, 1) := by decide +kernel
theorem dX7_readStatement_47 : decode cX7_readStatement 47 = .ok (.putfield 70, 3) := by decide +kernel
theorem dX7_readStatement_50 : decode cX7_readStatement 50 = .ok (.iload_n 1, 1) := by decide +kernel
theorem dX7_readStatement_51 : decode cX7_readStatement 51 = .ok (.bipush 33, 2) := by decide +kernel
theorem dX7_readStatement_53 : decode cX7_readStatement 53 = .ok (.if_icmp .ne 30, 3) := by decide +kernel
theorem dX7_readStatement_56 : decode cX7_readStatement 56 = .ok (.aload_n 0, 1) := by decide +kernel
theorem dX7_readStatement_57 : decode cX7_readStatement 57 = .ok (.invokevirtual 109, 3) := by decide +kernel
theorem dX7_readStatement_60 : decode cX7_readStatement 60 = .ok (.istore_n 2, 1) := by decide +kernel
theorem dX7_readStatement_61 : decode cX7_readStatement 61 = .ok (.iload_n 2, 1) := by decide +kernel
theorem dX7_readStatement_62 : decode cX7_readStatement 62 = .ok (.iconst (-1), 1) := by decide +kernel
theorem dX7_readStatement_63 : decode cX7_readStatement 63 = .ok (.if_icmp .eq 18, 3) := by decide +kernel
theorem dX7_readStatement_66 : decode cX7_readStatement 66 = .ok (.aload_n 0, 1) := by decide +kernel
theorem dX7_readStatement_67 : decode cX7_readStatement 67 = .ok (.iconst 3, 1) := by decide +kernel
theorem dX7_readStatement_68 : decode cX7_readStatement 68 = .ok (.iconst (-1), 1) := by decide +kernel
theorem dX7_readStatement_69 : decode cX7_readStatement 69 = .ok (.iload_n 2, 1) := by decide +kernel
theorem dX7_readStatement_70 : decode cX7_readStatement 70 = .ok (.iconst (-1), 1) := by decide +kernel
theorem dX7_readStatement_71 : decode cX7_readStatement 71 = .ok (.invokevirtual 112, 3) := by decide +kernel
theorem dX7_readStatement_74 : decode cX7_readStatement 74 = .ok (.ifCond .eq 7, 3) := by decide +kernel
theorem dX7_readStatement_77 : decode cX7_readStatement 77 = .ok (.iconst 1, 1) := by decide +kernel
theorem dX7_readStatement_78 : decode cX7_readStatement 78 = .ok (.goto 4, 3) := by decide +kernel
theorem dX7_readStatement_81 : decode cX7_readStatement 81 = .ok (.iconst 0, 1) := by decide +kernel
theorem dX7_readStatement_82 : decode cX7_readStatement 82 = .ok (.ireturn, 1) := by decide +kernel
theorem dX7_readStatement_83 : decode cX7_readStatement 83 = .ok (.aload_n 0, 1) := by decide +kernel
theorem dX7_readStatement_84 : decode cX7_readStatement 84 = .ok (.bipush 61, 2) := by decide +kernel
theorem dX7_readStatement_86 : decode cX7_readStatement 86 = .ok (.invokevirtual 100, 3) := by decide +kernel
theorem dX7_readStatement_89 : decode cX7_readStatement 89 = .ok (.ifCond .eq 18, 3) := by decide +kernel
theorem dX7_readStatement_92 : decode cX7_readStatement 92 = .ok (.aload_n 0, 1) := by decide +kernel
theorem dX7_readStatement_93 : decode cX7_readStatement 93 = .ok (.iload_n 1, 1) := by decide +kernel
theorem dX7_readStatement_94 : decode cX7_readStatement 94 = .ok (.bipush 97, 2) := by decide +kernel
theorem dX7_readStatement_96 : decode cX7_readStatement 96 = .ok (.isub, 1) := by decide +kernel
theorem dX7_readStatement_97 : decode cX7_readStatement 97 = .ok (.invokevirtual 116, 3) := by decide +kernel
theorem dX7_readStatement_100 : decode cX7_readStatement 100 = .ok (.ifCond .eq 7, 3) := by decide +kernel
theorem dX7_readStatement_103 : decode cX7_readStatement 103 = .ok (.iconst 1, 1) := by decide +kernel
theorem dX7_readStatement_104 : decode cX7_readStatement 104 = .ok (.goto 4, 3) := by decide +kernel
theorem dX7_readStatement_107 : decode cX7_readStatement 107 = .ok (.iconst 0, 1) := by decide +kernel
theorem dX7_readStatement_108 : decode cX7_readStatement 108 = .ok (.ireturn, 1) := by decide +kernel
theorem dX7_readRightSide_0 : decode cX7_readRightSide 0 = .ok (.aload_n 0, 1) := by decide +kernel
theorem dX7_readRightSide_1 : decode cX7_readRightSide 1 = .ok (.getfield 70, 3) := by decide +kernel
theorem dX7_readRightSide_4 : decode cX7_readRightSide 4 = .ok (.istore_n 2, 1) := by decide +kernel
theorem dX7_readRightSide_5 : decode cX7_readRightSide 5 = .ok (.aload_n 0, 1) := by decide +kernel
theorem dX7_readRightSide_6 : decode cX7_readRightSide 6 = .ok (.invokevirtual 109, 3) := by decide +kernel
theorem dX7_readRightSide_9 : decode cX7_readRightSide 9 = .ok (.istore_n 3, 1) := by decide +kernel
theorem dX7_readRightSide_10 : decode cX7_readRightSide 10 = .ok (.iload_n 3, 1) := by decide +kernel
theorem dX7_readRightSide_11 : decode cX7_readRightSide 11 = .ok (.iconst (-1), 1) := by decide +kernel
theorem dX7_readRightSide_12 : decode cX7_readRightSide 12 = .ok (.if_icmp .ne 5, 3) := by decide +kernel
theorem dX7_readRightSide_15 : decode cX7_readRightSide 15 = .ok (.iconst 0, 1) := by decide +kernel
theorem dX7_readRightSide_16 : decode cX7_readRightSide 16 = .ok (.ireturn, 1) := by decide +kernel
theorem dX7_readRightSide_17 : decode cX7_readRightSide 17 = .ok (.aload_n 0, 1) := by decide +kernel
theorem dX7_readRightSide_18 : decode cX7_readRightSide 18 = .ok (.getfield 12, 3) := by decide +kernel
theorem dX7_readRightSide_21 : decode cX7_readRightSide 21 = .ok (.aload_n 0, 1) := by decide +kernel
theorem dX7_readRightSide_22 : decode cX7_readRightSide 22 = .ok (.getfield 70, 3) := by decide +kernel
theorem dX7_readRightSide_25 : decode cX7_readRightSide 25 = .ok (.invokevirtual 87, 3) := by decide +kernel
theorem dX7_readRightSide_28 : decode cX7_readRightSide 28 = .ok (.istore 4, 2) := by decide +kernel
theorem dX7_readRightSide_30 : decode cX7_readRightSide 30 = .ok (.iload 4, 2) := by decide +kernel
theorem dX7_readRightSide_32 : decode cX7_readRightSide 32 = .ok (.invokestatic 119, 3) := by decide +kernel
theorem dX7_readRightSide_35 : decode cX7_readRightSide 35 = .ok (.ifCond .ne 12, 3) := by decide +kernel
theorem dX7_readRightSide_38 : decode cX7_readRightSide 38 = .ok (.aload_n 0, 1) := by decide +kernel
theorem dX7_readRightSide_39 : decode cX7_readRightSide 39 = .ok (.iconst 1, 1) := by decide +kernel
theorem dX7_readRightSide_40 : decode cX7_readRightSide 40 = .ok (.iload_n 1, 1) := by decide +kernel
theorem dX7_readRightSide_41 : decode cX7_readRightSide 41 = .ok (.iload_n 3, 1) := by decide +kernel
theorem dX7_readRightSide_42 : decode cX7_readRightSide 42 = .ok (.iconst (-1), 1) := by decide +kernel
theorem dX7_readRightSide_43 : decode cX7_readRightSide 43 = .ok (.invokevirtual 112, 3) := by decide +kernel
theorem dX7_readRightSide_46 : decode cX7_readRightSide 46 = .ok (.ireturn, 1) := by decide +kernel
theorem dX7_readRightSide_47 : decode cX7_readRightSide 47 = .ok (.aload_n 0, 1) := by decide +kernel
theorem dX7_readRightSide_48 : decode cX7_readRightSide 48 = .ok (.dup, 1) := by decide +kernel
theorem dX7_readRightSide_49 : decode cX7_readRightSide 49 = .ok (.getfield 70, 3) := by decide +kernel
theorem dX7_readRightSide_52 : decode cX7_readRightSide 52 = .ok (.iconst 1, 1) := by decide +kernel
theorem dX7_readRightSide_53 : decode cX7_readRightSide 53 = .ok (.iadd, 1) := by decide +kernel
theorem dX7_readRightSide_54 : decode cX7_readRightSide 54 = .ok (.putfield 70, 3) := by decide +kernel
theorem dX7_readRightSide_57 : decode cX7_readRightSide 57 = .ok (.aload_n 0, 1) := by decide +kernel
theorem dX7_readRightSide_58 : decode cX7_readRightSide 58 = .ok (.invokevirtual 109, 3) := by decide +kernel
theorem dX7_readRightSide_61 : decode cX7_readRightSide 61 = .ok (.istore 5, 2) := by decide +kernel
theorem dX7_readRightSide_63 : decode cX7_readRightSide 63 = .ok (.iload 5, 2) := by decide +kernel
theorem dX7_readRightSide_65 : decode cX7_readRightSide 65 = .ok (.iconst (-1), 1) := by decide +kernel
theorem dX7_readRightSide_66 : decode cX7_readRightSide 66 = .ok (.if_icmp .ne 5, 3) := by decide +kernel
theorem dX7_readRightSide_69 : decode cX7_readRightSide 69 = .ok (.iconst 0, 1) := by decide +kernel
theorem dX7_readRightSide_70 : decode cX7_readRightSide 70 = .ok (.ireturn, 1) := by decide +kernel
theorem dX7_readRightSide_71 : decode cX7_readRightSide 71 = .ok (.aload_n 0, 1) := by decide +kernel
theorem dX7_readRightSide_72 : decode cX7_readRightSide 72 = .ok (.getfield 21, 3) := by decide +kernel
theorem dX7_readRightSide_75 : decode cX7_readRightSide 75 = .ok (.iload 4, 2) := by decide +kernel
theorem dX7_readRightSide_77 : decode cX7_readRightSide 77 = .ok (.iload_n 3, 1) := by decide +kernel
theorem dX7_readRightSide_78 : decode cX7_readRightSide 78 = .ok (.iload 5, 2) := by decide +kernel
theorem dX7_readRightSide_80 : decode cX7_readRightSide 80 = .ok (.invokevirtual 122, 3) := by decide +kernel
theorem dX7_readRightSide_83 : decode cX7_readRightSide 83 = .ok (.istore 6, 2) := by decide +kernel
theorem dX7_readRightSide_85 : decode cX7_readRightSide 85 = .ok (.iload 6, 2) := by decide +kernel
theorem dX7_readRightSide_87 : decode cX7_readRightSide 87 = .ok (.iconst (-1), 1) := by decide +kernel
theorem dX7_readRightSide_88 : decode cX7_readRightSide 88 = .ok (.if_icmp .ne 9, 3) := by decide +kernel
theorem dX7_readRightSide_91 : decode cX7_readRightSide 91 = .ok (.aload_n 0, 1) := by decide +kernel
theorem dX7_readRightSide_92 : decode cX7_readRightSide 92 = .ok (.iload_n 2, 1) := by decide +kernel
theorem dX7_readRightSide_93 : decode cX7_readRightSide 93 = .ok (.invokevirtual 90, 3) := by decide +kernel
theorem dX7_readRightSide_96 : decode cX7_readRightSide 96 = .ok (.ireturn, 1) := by decide +kernel
theorem dX7_readRightSide_97 : decode cX7_readRightSide 97 = .ok (.aload_n 0, 1) := by decide +kernel
theorem dX7_readRightSide_98 : decode cX7_readRightSide 98 = .ok (.iconst 2, 1) := by decide +kernel
theorem dX7_readRightSide_99 : decode cX7_readRightSide 99 = .ok (.iload_n 1, 1) := by decide +kernel
theorem dX7_readRightSide_100 : decode cX7_readRightSide 100 = .ok (.iconst (-1), 1) := by decide +kernel
theorem dX7_readRightSide_101 : decode cX7_readRightSide 101 = .ok (.iload 6, 2) := by decide +kernel
theorem dX7_readRightSide_103 : decode cX7_readRightSide 103 = .ok (.invokevirtual 112, 3) := by decide +kernel
theorem dX7_readRightSide_106 : decode cX7_readRightSide 106 = .ok (.ireturn, 1) := by decide +kernel
theorem dX7_readOperand_0 : decode cX7_readOperand 0 = .ok (.aload_n 0, 1) := by decide +kernel
theorem dX7_readOperand_1 : decode cX7_readOperand 1 = .ok (.getfield 12, 3) := by decide +kernel
theorem dX7_readOperand_4 : decode cX7_readOperand 4 = .ok (.aload_n 0, 1) := by decide +kernel
theorem dX7_readOperand_5 : decode cX7_readOperand 5 = .ok (.getfield 70, 3) := by decide +kernel
theorem dX7_readOperand_8 : decode cX7_readOperand 8 = .ok (.invokevirtual 87, 3) := by decide +kernel
theorem dX7_readOperand_11 : decode cX7_readOperand 11 = .ok (.istore_n 1, 1) := by decide +kernel
theorem dX7_readOperand_12 : decode cX7_readOperand 12 = .ok (.iload_n 1, 1) := by decide +kernel
theorem dX7_readOperand_13 : decode cX7_readOperand 13 = .ok (.invokestatic 106, 3) := by decide +kernel
theorem dX7_readOperand_16 : decode cX7_readOperand 16 = .ok (.ifCond .eq 18, 3) := by decide +kernel
theorem dX7_readOperand_19 : decode cX7_readOperand 19 = .ok (.aload_n 0, 1) := by decide +kernel
theorem dX7_readOperand_20 : decode cX7_readOperand 20 = .ok (.dup, 1) := by decide +kernel
theorem dX7_readOperand_21 : decode cX7_readOperand 21 = .ok (.getfield 70, 3) := by decide +kernel
theorem dX7_readOperand_24 : decode cX7_readOperand 24 = .ok (.iconst 1, 1) := by decide +kernel
theorem dX7_readOperand_25 : decode cX7_readOperand 25 = .ok (.iadd, 1) := by decide +kernel
theorem dX7_readOperand_26 : decode cX7_readOperand 26 = .ok (.putfield 70, 3) := by decide +kernel
theorem dX7_readOperand_29 : decode cX7_readOperand 29 = .ok (.iload_n 1, 1) := by decide +kernel
theorem dX7_readOperand_30 : decode cX7_readOperand 30 = .ok (.bipush 97, 2) := by decide +kernel
theorem dX7_readOperand_32 : decode cX7_readOperand 32 = .ok (.isub, 1) := by decide +kernel
theorem dX7_readOperand_33 : decode cX7_readOperand 33 = .ok (.ireturn, 1) := by decide +kernel
theorem dX7_readOperand_34 : decode cX7_readOperand 34 = .ok (.aload_n 0, 1) := by decide +kernel
theorem dX7_readOperand_35 : decode cX7_readOperand 35 = .ok (.iconst 3, 1) := by decide +kernel
theorem dX7_readOperand_36 : decode cX7_readOperand 36 = .ok (.invokevirtual 126, 3) := by decide +kernel
theorem dX7_readOperand_39 : decode cX7_readOperand 39 = .ok (.istore_n 2, 1) := by decide +kernel
theorem dX7_readOperand_40 : decode cX7_readOperand 40 = .ok (.iload_n 2, 1) := by decide +kernel
theorem dX7_readOperand_41 : decode cX7_readOperand 41 = .ok (.iconst (-1), 1) := by decide +kernel
theorem dX7_readOperand_42 : decode cX7_readOperand 42 = .ok (.if_icmp .ne 7, 3) := by decide +kernel
theorem dX7_readOperand_45 : decode cX7_readOperand 45 = .ok (.iconst (-1), 1) := by decide +kernel
theorem dX7_readOperand_46 : decode cX7_readOperand 46 = .ok (.goto 7, 3) := by decide +kernel
theorem dX7_readOperand_49 : decode cX7_readOperand 49 = .ok (.iload_n 2, 1) := by decide +kernel
theorem dX7_readOperand_50 : decode cX7_readOperand 50 = .ok (.bipush 26, 2) := by decide +kernel
theorem dX7_readOperand_52 : decode cX7_readOperand 52 = .ok (.iadd, 1) := by decide +kernel
theorem dX7_readOperand_53 : decode cX7_readOperand 53 = .ok (.ireturn, 1) := by decide +kernel
theorem dX7_readNumber_0 : decode cX7_readNumber 0 = .ok (.iconst 0, 1) := by decide +kernel
theorem dX7_readNumber_1 : decode cX7_readNumber 1 = .ok (.istore_n 2, 1) := by decide +kernel
theorem dX7_readNumber_2 : decode cX7_readNumber 2 = .ok (.iconst 0, 1) := by decide +kernel
theorem dX7_readNumber_3 : decode cX7_readNumber 3 = .ok (.istore_n 3, 1) := by decide +kernel
theorem dX7_readNumber_4 : decode cX7_readNumber 4 = .ok (.iload_n 3, 1) := by decide +kernel
theorem dX7_readNumber_5 : decode cX7_readNumber 5 = .ok (.iload_n 1, 1) := by decide +kernel
theorem dX7_readNumber_6 : decode cX7_readNumber 6 = .ok (.if_icmp .ge 56, 3) := by decide +kernel
theorem dX7_readNumber_9 : decode cX7_readNumber 9 = .ok (.aload_n 0, 1) := by decide +kernel
theorem dX7_readNumber_10 : decode cX7_readNumber 10 = .ok (.getfield 12, 3) := by decide +kernel
theorem dX7_readNumber_13 : decode cX7_readNumber 13 = .ok (.aload_n 0, 1) := by decide +kernel
theorem dX7_readNumber_14 : decode cX7_readNumber 14 = .ok (.getfield 70, 3) := by decide +kernel
theorem dX7_readNumber_17 : decode cX7_readNumber 17 = .ok (.invokevirtual 87, 3) := by decide +kernel
theorem dX7_readNumber_20 : decode cX7_readNumber 20 = .ok (.invokestatic 129, 3) := by decide +kernel
theorem dX7_readNumber_23 : decode cX7_readNumber 23 = .ok (.ifCond .eq 39, 3) := by decide +kernel
theorem dX7_readNumber_26 : decode cX7_readNumber 26 = .ok (.iload_n 2, 1) := by decide +kernel
theorem dX7_readNumber_27 : decode cX7_readNumber 27 = .ok (.bipush 10, 2) := by decide +kernel
theorem dX7_readNumber_29 : decode cX7_readNumber 29 = .ok (.imul, 1) := by decide +kernel
theorem dX7_readNumber_30 : decode cX7_readNumber 30 = .ok (.aload_n 0, 1) := by decide +kernel
theorem dX7_readNumber_31 : decode cX7_readNumber 31 = .ok (.getfield 12, 3) := by decide +kernel
theorem dX7_readNumber_34 : decode cX7_readNumber 34 = .ok (.aload_n 0, 1) := by decide +kernel
theorem dX7_readNumber_35 : decode cX7_readNumber 35 = .ok (.getfield 70, 3) := by decide +kernel
theorem dX7_readNumber_38 : decode cX7_readNumber 38 = .ok (.invokevirtual 87, 3) := by decide +kernel
theorem dX7_readNumber_41 : decode cX7_readNumber 41 = .ok (.iadd, 1) := by decide +kernel
theorem dX7_readNumber_42 : decode cX7_readNumber 42 = .ok (.bipush 48, 2) := by decide +kernel
theorem dX7_readNumber_44 : decode cX7_readNumber 44 = .ok (.isub, 1) := by decide +kernel
theorem dX7_readNumber_45 : decode cX7_readNumber 45 = .ok (.istore_n 2, 1) := by decide +kernel
theorem dX7_readNumber_46 : decode cX7_readNumber 46 = .ok (.iinc 3 1, 3) := by decide +kernel
theorem dX7_readNumber_49 : decode cX7_readNumber 49 = .ok (.aload_n 0, 1) := by decide +kernel
theorem dX7_readNumber_50 : decode cX7_readNumber 50 = .ok (.dup, 1) := by decide +kernel
theorem dX7_readNumber_51 : decode cX7_readNumber 51 = .ok (.getfield 70, 3) := by decide +kernel
theorem dX7_readNumber_54 : decode cX7_readNumber 54 = .ok (.iconst 1, 1) := by decide +kernel
theorem dX7_readNumber_55 : decode cX7_readNumber 55 = .ok (.iadd, 1) := by decide +kernel
theorem dX7_readNumber_56 : decode cX7_readNumber 56 = .ok (.putfield 70, 3) := by decide +kernel
theorem dX7_readNumber_59 : decode cX7_readNumber 59 = .ok (.goto (-55), 3) := by decide +kernel
theorem dX7_readNumber_62 : decode cX7_readNumber 62 = .ok (.iload_n 3, 1) := by decide +kernel
theorem dX7_readNumber_63 : decode cX7_readNumber 63 = .ok (.ifCond .ne 14, 3) := by decide +kernel
theorem dX7_readNumber_66 : decode cX7_readNumber 66 = .ok (.aload_n 0, 1) := by decide +kernel
theorem dX7_readNumber_67 : decode cX7_readNumber 67 = .ok (.aload_n 0, 1) := by decide +kernel
theorem dX7_readNumber_68 : decode cX7_readNumber 68 = .ok (.getfield 70, 3) := by decide +kernel
theorem dX7_readNumber_71 : decode cX7_readNumber 71 = .ok (.invokevirtual 90, 3) := by decide +kernel
theorem dX7_readNumber_74 : decode cX7_readNumber 74 = .ok (.pop, 1) := by decide +kernel
theorem dX7_readNumber_75 : decode cX7_readNumber 75 = .ok (.iconst (-1), 1) := by decide +kernel
theorem dX7_readNumber_76 : decode cX7_readNumber 76 = .ok (.ireturn, 1) := by decide +kernel
theorem dX7_readNumber_77 : decode cX7_readNumber 77 = .ok (.iload_n 2, 1) := by decide +kernel
theorem dX7_readNumber_78 : decode cX7_readNumber 78 = .ok (.ireturn, 1) := by decide +kernel
theorem dX7_readEnd_0 : decode cX7_readEnd 0 = .ok (.aload_n 0, 1) := by decide +kernel
theorem dX7_readEnd_1 : decode cX7_readEnd 1 = .ok (.getfield 12, 3) := by decide +kernel
theorem dX7_readEnd_4 : decode cX7_readEnd 4 = .ok (.aload_n 0, 1) := by decide +kernel
theorem dX7_readEnd_5 : decode cX7_readEnd 5 = .ok (.getfield 70, 3) := by decide +kernel
theorem dX7_readEnd_8 : decode cX7_readEnd 8 = .ok (.invokevirtual 87, 3) := by decide +kernel
theorem dX7_readEnd_11 : decode cX7_readEnd 11 = .ok (.istore_n 1, 1) := by decide +kernel
theorem dX7_readEnd_12 : decode cX7_readEnd 12 = .ok (.iload_n 1, 1) := by decide +kernel
theorem dX7_readEnd_13 : decode cX7_readEnd 13 = .ok (.bipush 46, 2) := by decide +kernel
theorem dX7_readEnd_15 : decode cX7_readEnd 15 = .ok (.if_icmp .ne 20, 3) := by decide +kernel
theorem dX7_readEnd_18 : decode cX7_readEnd 18 = .ok (.aload_n 0, 1) := by decide +kernel
theorem dX7_readEnd_19 : decode cX7_readEnd 19 = .ok (.dup, 1) := by decide +kernel
theorem dX7_readEnd_20 : decode cX7_readEnd 20 = .ok (.getfield 70, 3) := by decide +kernel
theorem dX7_readEnd_23 : decode cX7_readEnd 23 = .ok (.iconst 1, 1) := by decide +kernel
theorem dX7_readEnd_24 : decode cX7_readEnd 24 = .ok (.iadd, 1) := by decide +kernel
theorem dX7_readEnd_25 : decode cX7_readEnd 25 = .ok (.putfield 70, 3) := by decide +kernel
theorem dX7_readEnd_28 : decode cX7_readEnd 28 = .ok (.aload_n 0, 1) := by decide +kernel
theorem dX7_readEnd_29 : decode cX7_readEnd 29 = .ok (.bipush 6, 2) := by decide +kernel
theorem dX7_readEnd_31 : decode cX7_readEnd 31 = .ok (.invokevirtual 132, 3) := by decide +kernel
theorem dX7_readEnd_34 : decode cX7_readEnd 34 = .ok (.ireturn, 1) := by decide +kernel
theorem dX7_readEnd_35 : decode cX7_readEnd 35 = .ok (.iload_n 1, 1) := by decide +kernel
theorem dX7_readEnd_36 : decode cX7_readEnd 36 = .ok (.bipush 62, 2) := by decide +kernel
theorem dX7_readEnd_38 : decode cX7_readEnd 38 = .ok (.if_icmp .ne 42, 3) := by decide +kernel
theorem dX7_readEnd_41 : decode cX7_readEnd 41 = .ok (.aload_n 0, 1) := by decide +kernel
theorem dX7_readEnd_42 : decode cX7_readEnd 42 = .ok (.dup, 1) := by decide +kernel
theorem dX7_readEnd_43 : decode cX7_readEnd 43 = .ok (.getfield 70, 3) := by decide +kernel
theorem dX7_readEnd_46 : decode cX7_readEnd 46 = .ok (.iconst 1, 1) := by decide +kernel
theorem dX7_readEnd_47 : decode cX7_readEnd 47 = .ok (.iadd, 1) := by decide +kernel
theorem dX7_readEnd_48 : decode cX7_readEnd 48 = .ok (.putfield 70, 3) := by decide +kernel
theorem dX7_readEnd_51 : decode cX7_readEnd 51 = .ok (.aload_n 0, 1) := by decide +kernel
theorem dX7_readEnd_52 : decode cX7_readEnd 52 = .ok (.iconst 4, 1) := by decide +kernel
theorem dX7_readEnd_53 : decode cX7_readEnd 53 = .ok (.invokevirtual 132, 3) := by decide +kernel
theorem dX7_readEnd_56 : decode cX7_readEnd 56 = .ok (.ifCond .eq 22, 3) := by decide +kernel
theorem dX7_readEnd_59 : decode cX7_readEnd 59 = .ok (.aload_n 0, 1) := by decide +kernel
theorem dX7_readEnd_60 : decode cX7_readEnd 60 = .ok (.aload_n 0, 1) := by decide +kernel
theorem dX7_readEnd_61 : decode cX7_readEnd 61 = .ok (.getfield 41, 3) := by decide +kernel
theorem dX7_readEnd_64 : decode cX7_readEnd 64 = .ok (.aload_n 0, 1) := by decide +kernel
theorem dX7_readEnd_65 : decode cX7_readEnd 65 = .ok (.getfield 47, 3) := by decide +kernel
theorem dX7_readEnd_68 : decode cX7_readEnd 68 = .ok (.invokevirtual 135, 3) := by decide +kernel
theorem dX7_readEnd_71 : decode cX7_readEnd 71 = .ok (.ifCond .eq 7, 3) := by decide +kernel
theorem dX7_readEnd_74 : decode cX7_readEnd 74 = .ok (.iconst 1, 1) := by decide +kernel
theorem dX7_readEnd_75 : decode cX7_readEnd 75 = .ok (.goto 4, 3) := by decide +kernel
theorem dX7_readEnd_78 : decode cX7_readEnd 78 = .ok (.iconst 0, 1) := by decide +kernel
theorem dX7_readEnd_79 : decode cX7_readEnd 79 = .ok (.ireturn, 1) := by decide +kernel
theorem dX7_readEnd_80 : decode cX7_readEnd 80 = .ok (.aload_n 0, 1) := by decide +kernel
theorem dX7_readEnd_81 : decode cX7_readEnd 81 = .ok (.bipush 63, 2) := by decide +kernel
theorem dX7_readEnd_83 : decode cX7_readEnd 83 = .ok (.invokevirtual 100, 3) := by decide +kernel
theorem dX7_readEnd_86 : decode cX7_readEnd 86 = .ok (.ifCond .eq 14, 3) := by decide +kernel
theorem dX7_readEnd_89 : decode cX7_readEnd 89 = .ok (.aload_n 0, 1) := by decide +kernel
theorem dX7_readEnd_90 : decode cX7_readEnd 90 = .ok (.invokevirtual 139, 3) := by decide +kernel
theorem dX7_readEnd_93 : decode cX7_readEnd 93 = .ok (.ifCond .eq 7, 3) := by decide +kernel
theorem dX7_readEnd_96 : decode cX7_readEnd 96 = .ok (.iconst 1, 1) := by decide +kernel
theorem dX7_readEnd_97 : decode cX7_readEnd 97 = .ok (.goto 4, 3) := by decide +kernel
theorem dX7_readEnd_100 : decode cX7_readEnd 100 = .ok (.iconst 0, 1) := by decide +kernel
theorem dX7_readEnd_101 : decode cX7_readEnd 101 = .ok (.ireturn, 1) := by decide +kernel
theorem dX7_readChoice_0 : decode cX7_readChoice 0 = .ok (.aload_n 0, 1) := by decide +kernel
theorem dX7_readChoice_1 : decode cX7_readChoice 1 = .ok (.getfield 12, 3) := by decide +kernel
theorem dX7_readChoice_4 : decode cX7_readChoice 4 = .ok (.aload_n 0, 1) := by decide +kernel
theorem dX7_readChoice_5 : decode cX7_readChoice 5 = .ok (.getfield 70, 3) := by decide +kernel
theorem dX7_readChoice_8 : decode cX7_readChoice 8 = .ok (.invokevirtual 87, 3) := by decide +kernel
theorem dX7_readChoice_11 : decode cX7_readChoice 11 = .ok (.istore_n 1, 1) := by decide +kernel
theorem dX7_readChoice_12 : decode cX7_readChoice 12 = .ok (.iload_n 1, 1) := by decide +kernel
theorem dX7_readChoice_13 : decode cX7_readChoice 13 = .ok (.invokestatic 106, 3) := by decide +kernel
theorem dX7_readChoice_16 : decode cX7_readChoice 16 = .ok (.ifCond .ne 12, 3) := by decide +kernel
theorem dX7_readChoice_19 : decode cX7_readChoice 19 = .ok (.aload_n 0, 1) := by decide +kernel
theorem dX7_readChoice_20 : decode cX7_readChoice 20 = .ok (.aload_n 0, 1) := by decide +kernel
theorem dX7_readChoice_21 : decode cX7_readChoice 21 = .ok (.getfield 70, 3) := by decide +kernel
theorem dX7_readChoice_24 : decode cX7_readChoice 24 = .ok (.invokevirtual 90, 3) := by decide +kernel
theorem dX7_readChoice_27 : decode cX7_readChoice 27 = .ok (.ireturn, 1) := by decide +kernel
theorem dX7_readChoice_28 : decode cX7_readChoice 28 = .ok (.aload_n 0, 1) := by decide +kernel
theorem dX7_readChoice_29 : decode cX7_readChoice 29 = .ok (.dup, 1) := by decide +kernel
theorem dX7_readChoice_30 : decode cX7_readChoice 30 = .ok (.getfield 70, 3) := by decide +kernel
theorem dX7_readChoice_33 : decode cX7_readChoice 33 = .ok (.iconst 1, 1) := by decide +kernel
theorem dX7_readChoice_34 : decode cX7_readChoice 34 = .ok (.iadd, 1) := by decide +kernel
theorem dX7_readChoice_35 : decode cX7_readChoice 35 = .ok (.putfield 70, 3) := by decide +kernel
theorem dX7_readChoice_38 : decode cX7_readChoice 38 = .ok (.aload_n 0, 1) := by decide +kernel
theorem dX7_readChoice_39 : decode cX7_readChoice 39 = .ok (.iconst 5, 1) := by decide +kernel
theorem dX7_readChoice_40 : decode cX7_readChoice 40 = .ok (.invokevirtual 132, 3) := by decide +kernel
theorem dX7_readChoice_43 : decode cX7_readChoice 43 = .ok (.ifCond .ne 5, 3) := by decide +kernel
theorem dX7_readChoice_46 : decode cX7_readChoice 46 = .ok (.iconst 0, 1) := by decide +kernel
theorem dX7_readChoice_47 : decode cX7_readChoice 47 = .ok (.ireturn, 1) := by decide +kernel
theorem dX7_readChoice_48 : decode cX7_readChoice 48 = .ok (.aload_n 0, 1) := by decide +kernel
theorem dX7_readChoice_49 : decode cX7_readChoice 49 = .ok (.getfield 32, 3) := by decide +kernel
theorem dX7_readChoice_52 : decode cX7_readChoice 52 = .ok (.aload_n 0, 1) := by decide +kernel
theorem dX7_readChoice_53 : decode cX7_readChoice 53 = .ok (.getfield 61, 3) := by decide +kernel
theorem dX7_readChoice_56 : decode cX7_readChoice 56 = .ok (.iconst 1, 1) := by decide +kernel
theorem dX7_readChoice_57 : decode cX7_readChoice 57 = .ok (.isub, 1) := by decide +kernel
theorem dX7_readChoice_58 : decode cX7_readChoice 58 = .ok (.iload_n 1, 1) := by decide +kernel
theorem dX7_readChoice_59 : decode cX7_readChoice 59 = .ok (.bipush 97, 2) := by decide +kernel
theorem dX7_readChoice_61 : decode cX7_readChoice 61 = .ok (.isub, 1) := by decide +kernel
theorem dX7_readChoice_62 : decode cX7_readChoice 62 = .ok (.iastore, 1) := by decide +kernel
theorem dX7_readChoice_63 : decode cX7_readChoice 63 = .ok (.aload_n 0, 1) := by decide +kernel
theorem dX7_readChoice_64 : decode cX7_readChoice 64 = .ok (.aload_n 0, 1) := by decide +kernel
theorem dX7_readChoice_65 : decode cX7_readChoice 65 = .ok (.getfield 41, 3) := by decide +kernel
theorem dX7_readChoice_68 : decode cX7_readChoice 68 = .ok (.aload_n 0, 1) := by decide +kernel
theorem dX7_readChoice_69 : decode cX7_readChoice 69 = .ok (.getfield 47, 3) := by decide +kernel
theorem dX7_readChoice_72 : decode cX7_readChoice 72 = .ok (.invokevirtual 135, 3) := by decide +kernel
theorem dX7_readChoice_75 : decode cX7_readChoice 75 = .ok (.ifCond .eq 31, 3) := by decide +kernel
theorem dX7_readChoice_78 : decode cX7_readChoice 78 = .ok (.aload_n 0, 1) := by decide +kernel
theorem dX7_readChoice_79 : decode cX7_readChoice 79 = .ok (.bipush 44, 2) := by decide +kernel
theorem dX7_readChoice_81 : decode cX7_readChoice 81 = .ok (.invokevirtual 100, 3) := by decide +kernel
theorem dX7_readChoice_84 : decode cX7_readChoice 84 = .ok (.ifCond .eq 22, 3) := by decide +kernel
theorem dX7_readChoice_87 : decode cX7_readChoice 87 = .ok (.aload_n 0, 1) := by decide +kernel
theorem dX7_readChoice_88 : decode cX7_readChoice 88 = .ok (.aload_n 0, 1) := by decide +kernel
theorem dX7_readChoice_89 : decode cX7_readChoice 89 = .ok (.getfield 44, 3) := by decide +kernel
theorem dX7_readChoice_92 : decode cX7_readChoice 92 = .ok (.aload_n 0, 1) := by decide +kernel
theorem dX7_readChoice_93 : decode cX7_readChoice 93 = .ok (.getfield 50, 3) := by decide +kernel
theorem dX7_readChoice_96 : decode cX7_readChoice 96 = .ok (.invokevirtual 135, 3) := by decide +kernel
theorem dX7_readChoice_99 : decode cX7_readChoice 99 = .ok (.ifCond .eq 7, 3) := by decide +kernel
theorem dX7_readChoice_102 : decode cX7_readChoice 102 = .ok (.iconst 1, 1) := by decide +kernel
theorem dX7_readChoice_103 : decode cX7_readChoice 103 = .ok (.goto 4, 3) := by decide +kernel
theorem dX7_readChoice_106 : decode cX7_readChoice 106 = .ok (.iconst 0, 1) := by decide +kernel
theorem dX7_readChoice_107 : decode cX7_readChoice 107 = .ok (.ireturn, 1) := by decide +kernel
theorem dX7_readTarget_0 : decode cX7_readTarget 0 = .ok (.aload_n 0, 1) := by decide +kernel
theorem dX7_readTarget_1 : decode cX7_readTarget 1 = .ok (.getfield 70, 3) := by decide +kernel
theorem dX7_readTarget_4 : decode cX7_readTarget 4 = .ok (.istore_n 3, 1) := by decide +kernel
theorem dX7_readTarget_5 : decode cX7_readTarget 5 = .ok (.aload_n 0, 1) := by decide +kernel
theorem dX7_readTarget_6 : decode cX7_readTarget 6 = .ok (.iconst 2, 1) := by decide +kernel
theorem dX7_readTarget_7 : decode cX7_readTarget 7 = .ok (.invokevirtual 126, 3) := by decide +kernel
theorem dX7_readTarget_10 : decode cX7_readTarget 10 = .ok (.istore 4, 2) := by decide +kernel
theorem dX7_readTarget_12 : decode cX7_readTarget 12 = .ok (.aload_n 0, 1) := by decide +kernel
theorem dX7_readTarget_13 : decode cX7_readTarget 13 = .ok (.getfield 61, 3) := by decide +kernel
theorem dX7_readTarget_16 : decode cX7_readTarget 16 = .ok (.iconst 1, 1) := by decide +kernel
theorem dX7_readTarget_17 : decode cX7_readTarget 17 = .ok (.isub, 1) := by decide +kernel
theorem dX7_readTarget_18 : decode cX7_readTarget 18 = .ok (.istore 5, 2) := by decide +kernel
theorem dX7_readTarget_20 : decode cX7_readTarget 20 = .ok (.iload 4, 2) := by decide +kernel
theorem dX7_readTarget_22 : decode cX7_readTarget 22 = .ok (.iconst (-1), 1) := by decide +kernel
theorem dX7_readTarget_23 : decode cX7_readTarget 23 = .ok (.if_icmp .eq 15, 3) := by decide +kernel
theorem dX7_readTarget_26 : decode cX7_readTarget 26 = .ok (.iload 5, 2) := by decide +kernel
theorem dX7_readTarget_28 : decode cX7_readTarget 28 = .ok (.ifCond .lt 10, 3) := by decide +kernel
theorem dX7_readTarget_31 : decode cX7_readTarget 31 = .ok (.iload 5, 2) := by decide +kernel
theorem dX7_readTarget_33 : decode cX7_readTarget 33 = .ok (.bipush 76, 2) := by decide +kernel
theorem dX7_readTarget_35 : decode cX7_readTarget 35 = .ok (.if_icmp .lt 5, 3) := by decide +kernel
theorem dX7_readTarget_38 : decode cX7_readTarget 38 = .ok (.iconst 0, 1) := by decide +kernel
theorem dX7_readTarget_39 : decode cX7_readTarget 39 = .ok (.ireturn, 1) := by decide +kernel
theorem dX7_readTarget_40 : decode cX7_readTarget 40 = .ok (.aload_n 1, 1) := by decide +kernel
theorem dX7_readTarget_41 : decode cX7_readTarget 41 = .ok (.iload 5, 2) := by decide +kernel
theorem dX7_readTarget_43 : decode cX7_readTarget 43 = .ok (.iload 4, 2) := by decide +kernel
theorem dX7_readTarget_45 : decode cX7_readTarget 45 = .ok (.iastore, 1) := by decide +kernel
theorem dX7_readTarget_46 : decode cX7_readTarget 46 = .ok (.aload_n 2, 1) := by decide +kernel
theorem dX7_readTarget_47 : decode cX7_readTarget 47 = .ok (.iload 5, 2) := by decide +kernel
theorem dX7_readTarget_49 : decode cX7_readTarget 49 = .ok (.iload_n 3, 1) := by decide +kernel
theorem dX7_readTarget_50 : decode cX7_readTarget 50 = .ok (.iastore, 1) := by decide +kernel
theorem dX7_readTarget_51 : decode cX7_readTarget 51 = .ok (.iconst 1, 1) := by decide +kernel
theorem dX7_readTarget_52 : decode cX7_readTarget 52 = .ok (.ireturn, 1) := by decide +kernel
theorem dX7_addStatement_0 : decode cX7_addStatement 0 = .ok (.aload_n 0, 1) := by decide +kernel
theorem dX7_addStatement_1 : decode cX7_addStatement 1 = .ok (.iload_n 1, 1) := by decide +kernel
theorem dX7_addStatement_2 : decode cX7_addStatement 2 = .ok (.invokevirtual 132, 3) := by decide +kernel
theorem dX7_addStatement_5 : decode cX7_addStatement 5 = .ok (.ifCond .ne 5, 3) := by decide +kernel
theorem dX7_addStatement_8 : decode cX7_addStatement 8 = .ok (.iconst 0, 1) := by decide +kernel
theorem dX7_addStatement_9 : decode cX7_addStatement 9 = .ok (.ireturn, 1) := by decide +kernel
theorem dX7_addStatement_10 : decode cX7_addStatement 10 = .ok (.aload_n 0, 1) := by decide +kernel
theorem dX7_addStatement_11 : decode cX7_addStatement 11 = .ok (.getfield 32, 3) := by decide +kernel
theorem dX7_addStatement_14 : decode cX7_addStatement 14 = .ok (.aload_n 0, 1) := by decide +kernel
theorem dX7_addStatement_15 : decode cX7_addStatement 15 = .ok (.getfield 61, 3) := by decide +kernel
theorem dX7_addStatement_18 : decode cX7_addStatement 18 = .ok (.iconst 1, 1) := by decide +kernel
theorem dX7_addStatement_19 : decode cX7_addStatement 19 = .ok (.isub, 1) := by decide +kernel
theorem dX7_addStatement_20 : decode cX7_addStatement 20 = .ok (.iload_n 2, 1) := by decide +kernel
theorem dX7_addStatement_21 : decode cX7_addStatement 21 = .ok (.iastore, 1) := by decide +kernel
theorem dX7_addStatement_22 : decode cX7_addStatement 22 = .ok (.aload_n 0, 1) := by decide +kernel
theorem dX7_addStatement_23 : decode cX7_addStatement 23 = .ok (.getfield 35, 3) := by decide +kernel
theorem dX7_addStatement_26 : decode cX7_addStatement 26 = .ok (.aload_n 0, 1) := by decide +kernel
theorem dX7_addStatement_27 : decode cX7_addStatement 27 = .ok (.getfield 61, 3) := by decide +kernel
theorem dX7_addStatement_30 : decode cX7_addStatement 30 = .ok (.iconst 1, 1) := by decide +kernel
theorem dX7_addStatement_31 : decode cX7_addStatement 31 = .ok (.isub, 1) := by decide +kernel
theorem dX7_addStatement_32 : decode cX7_addStatement 32 = .ok (.iload_n 3, 1) := by decide +kernel
theorem dX7_addStatement_33 : decode cX7_addStatement 33 = .ok (.iastore, 1) := by decide +kernel
theorem dX7_addStatement_34 : decode cX7_addStatement 34 = .ok (.aload_n 0, 1) := by decide +kernel
theorem dX7_addStatement_35 : decode cX7_addStatement 35 = .ok (.getfield 38, 3) := by decide +kernel
theorem dX7_addStatement_38 : decode cX7_addStatement 38 = .ok (.aload_n 0, 1) := by decide +kernel
theorem dX7_addStatement_39 : decode cX7_addStatement 39 = .ok (.getfield 61, 3) := by decide +kernel
theorem dX7_addStatement_42 : decode cX7_addStatement 42 = .ok (.iconst 1, 1) := by decide +kernel
theorem dX7_addStatement_43 : decode cX7_addStatement 43 = .ok (.isub, 1) := by decide +kernel
theorem dX7_addStatement_44 : decode cX7_addStatement 44 = .ok (.iload 4, 2) := by decide +kernel
theorem dX7_addStatement_46 : decode cX7_addStatement 46 = .ok (.iastore, 1) := by decide +kernel
theorem dX7_addStatement_47 : decode cX7_addStatement 47 = .ok (.iconst 1, 1) := by decide +kernel
theorem dX7_addStatement_48 : decode cX7_addStatement 48 = .ok (.ireturn, 1) := by decide +kernel
theorem dX7_addLine_0 : decode cX7_addLine 0 = .ok (.aload_n 0, 1) := by decide +kernel
theorem dX7_addLine_1 : decode cX7_addLine 1 = .ok (.getfield 61, 3) := by decide +kernel
theorem dX7_addLine_4 : decode cX7_addLine 4 = .ok (.ifCond .lt 12, 3) := by decide +kernel
theorem dX7_addLine_7 : decode cX7_addLine 7 = .ok (.aload_n 0, 1) := by decide +kernel
theorem dX7_addLine_8 : decode cX7_addLine 8 = .ok (.getfield 61, 3) := by decide +kernel
theorem dX7_addLine_11 : decode cX7_addLine 11 = .ok (.bipush 76, 2) := by decide +kernel
theorem dX7_addLine_13 : decode cX7_addLine 13 = .ok (.if_icmp .lt 12, 3) := by decide +kernel
theorem dX7_addLine_16 : decode cX7_addLine 16 = .ok (.aload_n 0, 1) := by decide +kernel
theorem dX7_addLine_17 : decode cX7_addLine 17 = .ok (.aload_n 0, 1) := by decide +kernel
theorem dX7_addLine_18 : decode cX7_addLine 18 = .ok (.getfield 70, 3) := by decide +kernel
theorem dX7_addLine_21 : decode cX7_addLine 21 = .ok (.invokevirtual 90, 3) := by decide +kernel
theorem dX7_addLine_24 : decode cX7_addLine 24 = .ok (.ireturn, 1) := by decide +kernel
theorem dX7_addLine_25 : decode cX7_addLine 25 = .ok (.aload_n 0, 1) := by decide +kernel
theorem dX7_addLine_26 : decode cX7_addLine 26 = .ok (.getfield 25, 3) := by decide +kernel
theorem dX7_addLine_29 : decode cX7_addLine 29 = .ok (.aload_n 0, 1) := by decide +kernel
theorem dX7_addLine_30 : decode cX7_addLine 30 = .ok (.getfield 61, 3) := by decide +kernel
theorem dX7_addLine_33 : decode cX7_addLine 33 = .ok (.iload_n 1, 1) := by decide +kernel
theorem dX7_addLine_34 : decode cX7_addLine 34 = .ok (.iastore, 1) := by decide +kernel
theorem dX7_addLine_35 : decode cX7_addLine 35 = .ok (.aload_n 0, 1) := by decide +kernel
theorem dX7_addLine_36 : decode cX7_addLine 36 = .ok (.getfield 29, 3) := by decide +kernel
theorem dX7_addLine_39 : decode cX7_addLine 39 = .ok (.aload_n 0, 1) := by decide +kernel
theorem dX7_addLine_40 : decode cX7_addLine 40 = .ok (.getfield 61, 3) := by decide +kernel
theorem dX7_addLine_43 : decode cX7_addLine 43 = .ok (.aload_n 0, 1) := by decide +kernel
theorem dX7_addLine_44 : decode cX7_addLine 44 = .ok (.getfield 64, 3) := by decide +kernel
theorem dX7_addLine_47 : decode cX7_addLine 47 = .ok (.iastore, 1) := by decide +kernel
theorem dX7_addLine_48 : decode cX7_addLine 48 = .ok (.aload_n 0, 1) := by decide +kernel
theorem dX7_addLine_49 : decode cX7_addLine 49 = .ok (.getfield 32, 3) := by decide +kernel
theorem dX7_addLine_52 : decode cX7_addLine 52 = .ok (.aload_n 0, 1) := by decide +kernel
theorem dX7_addLine_53 : decode cX7_addLine 53 = .ok (.getfield 61, 3) := by decide +kernel
theorem dX7_addLine_56 : decode cX7_addLine 56 = .ok (.iconst (-1), 1) := by decide +kernel
theorem dX7_addLine_57 : decode cX7_addLine 57 = .ok (.iastore, 1) := by decide +kernel
theorem dX7_addLine_58 : decode cX7_addLine 58 = .ok (.aload_n 0, 1) := by decide +kernel
theorem dX7_addLine_59 : decode cX7_addLine 59 = .ok (.getfield 35, 3) := by decide +kernel
theorem dX7_addLine_62 : decode cX7_addLine 62 = .ok (.aload_n 0, 1) := by decide +kernel
theorem dX7_addLine_63 : decode cX7_addLine 63 = .ok (.getfield 61, 3) := by decide +kernel
theorem dX7_addLine_66 : decode cX7_addLine 66 = .ok (.iconst (-1), 1) := by decide +kernel
theorem dX7_addLine_67 : decode cX7_addLine 67 = .ok (.iastore, 1) := by decide +kernel
theorem dX7_addLine_68 : decode cX7_addLine 68 = .ok (.aload_n 0, 1) := by decide +kernel
theorem dX7_addLine_69 : decode cX7_addLine 69 = .ok (.getfield 38, 3) := by decide +kernel
theorem dX7_addLine_72 : decode cX7_addLine 72 = .ok (.aload_n 0, 1) := by decide +kernel
theorem dX7_addLine_73 : decode cX7_addLine 73 = .ok (.getfield 61, 3) := by decide +kernel
theorem dX7_addLine_76 : decode cX7_addLine 76 = .ok (.iconst (-1), 1) := by decide +kernel
theorem dX7_addLine_77 : decode cX7_addLine 77 = .ok (.iastore, 1) := by decide +kernel
theorem dX7_addLine_78 : decode cX7_addLine 78 = .ok (.aload_n 0, 1) := by decide +kernel
theorem dX7_addLine_79 : decode cX7_addLine 79 = .ok (.getfield 41, 3) := by decide +kernel
theorem dX7_addLine_82 : decode cX7_addLine 82 = .ok (.aload_n 0, 1) := by decide +kernel
theorem dX7_addLine_83 : decode cX7_addLine 83 = .ok (.getfield 61, 3) := by decide +kernel
theorem dX7_addLine_86 : decode cX7_addLine 86 = .ok (.iconst (-1), 1) := by decide +kernel
theorem dX7_addLine_87 : decode cX7_addLine 87 = .ok (.iastore, 1) := by decide +kernel
theorem dX7_addLine_88 : decode cX7_addLine 88 = .ok (.aload_n 0, 1) := by decide +kernel
theorem dX7_addLine_89 : decode cX7_addLine 89 = .ok (.getfield 44, 3) := by decide +kernel
theorem dX7_addLine_92 : decode cX7_addLine 92 = .ok (.aload_n 0, 1) := by decide +kernel
theorem dX7_addLine_93 : decode cX7_addLine 93 = .ok (.getfield 61, 3) := by decide +kernel
theorem dX7_addLine_96 : decode cX7_addLine 96 = .ok (.iconst (-1), 1) := by decide +kernel
theorem dX7_addLine_97 : decode cX7_addLine 97 = .ok (.iastore, 1) := by decide +kernel
theorem dX7_addLine_98 : decode cX7_addLine 98 = .ok (.aload_n 0, 1) := by decide +kernel
theorem dX7_addLine_99 : decode cX7_addLine 99 = .ok (.dup, 1) := by decide +kernel
theorem dX7_addLine_100 : decode cX7_addLine 100 = .ok (.getfield 61, 3) := by decide +kernel
theorem dX7_addLine_103 : decode cX7_addLine 103 = .ok (.iconst 1, 1) := by decide +kernel
theorem dX7_addLine_104 : decode cX7_addLine 104 = .ok (.iadd, 1) := by decide +kernel
theorem dX7_addLine_105 : decode cX7_addLine 105 = .ok (.putfield 61, 3) := by decide +kernel
theorem dX7_addLine_108 : decode cX7_addLine 108 = .ok (.iconst 1, 1) := by decide +kernel
theorem dX7_addLine_109 : decode cX7_addLine 109 = .ok (.ireturn, 1) := by decide +kernel
theorem dX7_findStrayNumber_0 : decode cX7_findStrayNumber 0 = .ok (.iconst 0, 1) := by decide +kernel
theorem dX7_findStrayNumber_1 : decode cX7_findStrayNumber 1 = .ok (.istore_n 1, 1) := by decide +kernel
theorem dX7_findStrayNumber_2 : decode cX7_findStrayNumber 2 = .ok (.iload_n 1, 1) := by decide +kernel
theorem dX7_findStrayNumber_3 : decode cX7_findStrayNumber 3 = .ok (.aload_n 0, 1) := by decide +kernel
theorem dX7_findStrayNumber_4 : decode cX7_findStrayNumber 4 = .ok (.getfield 61, 3) := by decide +kernel
theorem dX7_findStrayNumber_7 : decode cX7_findStrayNumber 7 = .ok (.if_icmp .ge 66, 3) := by decide +kernel
theorem dX7_findStrayNumber_10 : decode cX7_findStrayNumber 10 = .ok (.aload_n 0, 1) := by decide +kernel
theorem dX7_findStrayNumber_11 : decode cX7_findStrayNumber 11 = .ok (.getfield 77, 3) := by decide +kernel
theorem dX7_findStrayNumber_14 : decode cX7_findStrayNumber 14 = .ok (.iconst (-1), 1) := by decide +kernel
theorem dX7_findStrayNumber_15 : decode cX7_findStrayNumber 15 = .ok (.if_icmp .ne 58, 3) := by decide +kernel
theorem dX7_findStrayNumber_18 : decode cX7_findStrayNumber 18 = .ok (.aload_n 0, 1) := by decide +kernel
theorem dX7_findStrayNumber_19 : decode cX7_findStrayNumber 19 = .ok (.getfield 41, 3) := by decide +kernel
theorem dX7_findStrayNumber_22 : decode cX7_findStrayNumber 22 = .ok (.iload_n 1, 1) := by decide +kernel
theorem dX7_findStrayNumber_23 : decode cX7_findStrayNumber 23 = .ok (.iaload, 1) := by decide +kernel
theorem dX7_findStrayNumber_24 : decode cX7_findStrayNumber 24 = .ok (.aload_n 0, 1) := by decide +kernel
theorem dX7_findStrayNumber_25 : decode cX7_findStrayNumber 25 = .ok (.getfield 64, 3) := by decide +kernel
theorem dX7_findStrayNumber_28 : decode cX7_findStrayNumber 28 = .ok (.if_icmp .lt 16, 3) := by decide +kernel
theorem dX7_findStrayNumber_31 : decode cX7_findStrayNumber 31 = .ok (.aload_n 0, 1) := by decide +kernel
theorem dX7_findStrayNumber_32 : decode cX7_findStrayNumber 32 = .ok (.aload_n 0, 1) := by decide +kernel
theorem dX7_findStrayNumber_33 : decode cX7_findStrayNumber 33 = .ok (.getfield 47, 3) := by decide +kernel
theorem dX7_findStrayNumber_36 : decode cX7_findStrayNumber 36 = .ok (.iload_n 1, 1) := by decide +kernel
theorem dX7_findStrayNumber_37 : decode cX7_findStrayNumber 37 = .ok (.iaload, 1) := by decide +kernel
theorem dX7_findStrayNumber_38 : decode cX7_findStrayNumber 38 = .ok (.putfield 77, 3) := by decide +kernel
theorem dX7_findStrayNumber_41 : decode cX7_findStrayNumber 41 = .ok (.goto 26, 3) := by decide +kernel
theorem dX7_findStrayNumber_44 : decode cX7_findStrayNumber 44 = .ok (.aload_n 0, 1) := by decide +kernel
theorem dX7_findStrayNumber_45 : decode cX7_findStrayNumber 45 = .ok (.getfield 44, 3) := by decide +kernel
theorem dX7_findStrayNumber_48 : decode cX7_findStrayNumber 48 = .ok (.iload_n 1, 1) := by decide +kernel
theorem dX7_findStrayNumber_49 : decode cX7_findStrayNumber 49 = .ok (.iaload, 1) := by decide +kernel
theorem dX7_findStrayNumber_50 : decode cX7_findStrayNumber 50 = .ok (.aload_n 0, 1) := by decide +kernel
theorem dX7_findStrayNumber_51 : decode cX7_findStrayNumber 51 = .ok (.getfield 64, 3) := by decide +kernel
theorem dX7_findStrayNumber_54 : decode cX7_findStrayNumber 54 = .ok (.if_icmp .lt 13, 3) := by decide +kernel
theorem dX7_findStrayNumber_57 : decode cX7_findStrayNumber 57 = .ok (.aload_n 0, 1) := by decide +kernel
theorem dX7_findStrayNumber_58 : decode cX7_findStrayNumber 58 = .ok (.aload_n 0, 1) := by decide +kernel
theorem dX7_findStrayNumber_59 : decode cX7_findStrayNumber 59 = .ok (.getfield 50, 3) := by decide +kernel
theorem dX7_findStrayNumber_62 : decode cX7_findStrayNumber 62 = .ok (.iload_n 1, 1) := by decide +kernel
theorem dX7_findStrayNumber_63 : decode cX7_findStrayNumber 63 = .ok (.iaload, 1) := by decide +kernel
theorem dX7_findStrayNumber_64 : decode cX7_findStrayNumber 64 = .ok (.putfield 77, 3) := by decide +kernel
theorem dX7_findStrayNumber_67 : decode cX7_findStrayNumber 67 = .ok (.iinc 1 1, 3) := by decide +kernel
theorem dX7_findStrayNumber_70 : decode cX7_findStrayNumber 70 = .ok (.goto (-68), 3) := by decide +kernel
theorem dX7_findStrayNumber_73 : decode cX7_findStrayNumber 73 = .ok (.return_, 1) := by decide +kernel
theorem dX7_isLetter_0 : decode cX7_isLetter 0 = .ok (.iload_n 0, 1) := by decide +kernel
theorem dX7_isLetter_1 : decode cX7_isLetter 1 = .ok (.bipush 97, 2) := by decide +kernel
theorem dX7_isLetter_3 : decode cX7_isLetter 3 = .ok (.if_icmp .lt 13, 3) := by decide +kernel
theorem dX7_isLetter_6 : decode cX7_isLetter 6 = .ok (.iload_n 0, 1) := by decide +kernel
theorem dX7_isLetter_7 : decode cX7_isLetter 7 = .ok (.bipush 122, 2) := by decide +kernel
theorem dX7_isLetter_9 : decode cX7_isLetter 9 = .ok (.if_icmp .gt 7, 3) := by decide +kernel
theorem dX7_isLetter_12 : decode cX7_isLetter 12 = .ok (.iconst 1, 1) := by decide +kernel
theorem dX7_isLetter_13 : decode cX7_isLetter 13 = .ok (.goto 4, 3) := by decide +kernel
theorem dX7_isLetter_16 : decode cX7_isLetter 16 = .ok (.iconst 0, 1) := by decide +kernel
theorem dX7_isLetter_17 : decode cX7_isLetter 17 = .ok (.ireturn, 1) := by decide +kernel
theorem dX7_isDigit_0 : decode cX7_isDigit 0 = .ok (.iload_n 0, 1) := by decide +kernel
theorem dX7_isDigit_1 : decode cX7_isDigit 1 = .ok (.bipush 48, 2) := by decide +kernel
theorem dX7_isDigit_3 : decode cX7_isDigit 3 = .ok (.if_icmp .lt 13, 3) := by decide +kernel
theorem dX7_isDigit_6 : decode cX7_isDigit 6 = .ok (.iload_n 0, 1) := by decide +kernel
theorem dX7_isDigit_7 : decode cX7_isDigit 7 = .ok (.bipush 57, 2) := by decide +kernel
theorem dX7_isDigit_9 : decode cX7_isDigit 9 = .ok (.if_icmp .gt 7, 3) := by decide +kernel
theorem dX7_isDigit_12 : decode cX7_isDigit 12 = .ok (.iconst 1, 1) := by decide +kernel
theorem dX7_isDigit_13 : decode cX7_isDigit 13 = .ok (.goto 4, 3) := by decide +kernel
theorem dX7_isDigit_16 : decode cX7_isDigit 16 = .ok (.iconst 0, 1) := by decide +kernel
theorem dX7_isDigit_17 : decode cX7_isDigit 17 = .ok (.ireturn, 1) := by decide +kernel
theorem dX7_isOperator_0 : decode cX7_isOperator 0 = .ok (.iload_n 0, 1) := by decide +kernel
theorem dX7_isOperator_1 : decode cX7_isOperator 1 = .ok (.tableswitch 113 37 60 #[111, 111, 113, 113, 113, 111, 111, 113, 111, 113, 111, 113, 113, 113, 113, 113, 113, 113, 113, 113, 113, 113, 113, 111], 111) := by decide +kernel
theorem dX7_isOperator_112 : decode cX7_isOperator 112 = .ok (.iconst 1, 1) := by decide +kernel
theorem dX7_isOperator_113 : decode cX7_isOperator 113 = .ok (.ireturn, 1) := by decide +kernel
theorem dX7_isOperator_114 : decode cX7_isOperator 114 = .ok (.iconst 0, 1) := by decide +kernel
theorem dX7_isOperator_115 : decode cX7_isOperator 115 = .ok (.ireturn, 1) := by decide +kernel
theorem dX8_init_0 : decode cX8_init 0 = .ok (.aload_n 0, 1) := by decide +kernel
theorem dX8_init_1 : decode cX8_init 1 = .ok (.invokespecial 3, 3) := by decide +kernel
theorem dX8_init_4 : decode cX8_init 4 = .ok (.aload_n 0, 1) := by decide +kernel
theorem dX8_init_5 : decode cX8_init 5 = .ok (.bipush 26, 2) := by decide +kernel
theorem dX8_init_7 : decode cX8_init 7 = .ok (.newarray .int, 2) := by decide +kernel
theorem dX8_init_9 : decode cX8_init 9 = .ok (.putfield 9, 3) := by decide +kernel
theorem dX8_init_12 : decode cX8_init 12 = .ok (.aload_n 0, 1) := by decide +kernel
theorem dX8_init_13 : decode cX8_init 13 = .ok (.bipush 40, 2) := by decide +kernel
theorem dX8_init_15 : decode cX8_init 15 = .ok (.newarray .int, 2) := by decide +kernel
theorem dX8_init_17 : decode cX8_init 17 = .ok (.putfield 15, 3) := by decide +kernel
theorem dX8_init_20 : decode cX8_init 20 = .ok (.aload_n 0, 1) := by decide +kernel
theorem dX8_init_21 : decode cX8_init 21 = .ok (.bipush 24, 2) := by decide +kernel
theorem dX8_init_23 : decode cX8_init 23 = .ok (.newarray .int, 2) := by decide +kernel
theorem dX8_init_25 : decode cX8_init 25 = .ok (.putfield 18, 3) := by decide +kernel
theorem dX8_init_28 : decode cX8_init 28 = .ok (.aload_n 0, 1) := by decide +kernel
theorem dX8_init_29 : decode cX8_init 29 = .ok (.bipush 24, 2) := by decide +kernel
theorem dX8_init_31 : decode cX8_init 31 = .ok (.newarray .int, 2) := by decide +kernel
theorem dX8_init_33 : decode cX8_init 33 = .ok (.putfield 21, 3) := by decide +kernel
theorem dX8_init_36 : decode cX8_init 36 = .ok (.return_, 1) := by decide +kernel
theorem dX8_follow_0 : decode cX8_follow 0 = .ok (.aload_n 3, 1) := by decide +kernel
theorem dX8_follow_1 : decode cX8_follow 1 = .ok (.iconst 0, 1) := by decide +kernel
theorem dX8_follow_2 : decode cX8_follow 2 = .ok (.aload_n 0, 1) := by decide +kernel
theorem dX8_follow_3 : decode cX8_follow 3 = .ok (.getfield 9, 3) := by decide +kernel
theorem dX8_follow_6 : decode cX8_follow 6 = .ok (.iconst 0, 1) := by decide +kernel
theorem dX8_follow_7 : decode cX8_follow 7 = .ok (.bipush 26, 2) := by decide +kernel
theorem dX8_follow_9 : decode cX8_follow 9 = .ok (.invokestatic 24, 3) := by decide +kernel
theorem dX8_follow_12 : decode cX8_follow 12 = .ok (.aload_n 0, 1) := by decide +kernel
theorem dX8_follow_13 : decode cX8_follow 13 = .ok (.getfield 21, 3) := by decide +kernel
theorem dX8_follow_16 : decode cX8_follow 16 = .ok (.iconst 0, 1) := by decide +kernel
theorem dX8_follow_17 : decode cX8_follow 17 = .ok (.invokestatic 30, 3) := by decide +kernel
theorem dX8_follow_20 : decode cX8_follow 20 = .ok (.aload_n 0, 1) := by decide +kernel
theorem dX8_follow_21 : decode cX8_follow 21 = .ok (.getfield 18, 3) := by decide +kernel
theorem dX8_follow_24 : decode cX8_follow 24 = .ok (.iconst 0, 1) := by decide +kernel
theorem dX8_follow_25 : decode cX8_follow 25 = .ok (.invokestatic 30, 3) := by decide +kernel
theorem dX8_follow_28 : decode cX8_follow 28 = .ok (.aload_n 0, 1) := by decide +kernel
theorem dX8_follow_29 : decode cX8_follow 29 = .ok (.iconst 0, 1) := by decide +kernel
theorem dX8_follow_30 : decode cX8_follow 30 = .ok (.putfield 36, 3) := by decide +kernel
theorem dX8_follow_33 : decode cX8_follow 33 = .ok (.aload_n 0, 1) := by decide +kernel
theorem dX8_follow_34 : decode cX8_follow 34 = .ok (.iconst 0, 1) := by decide +kernel
theorem dX8_follow_35 : decode cX8_follow 35 = .ok (.putfield 40, 3) := by decide +kernel
theorem dX8_follow_38 : decode cX8_follow 38 = .ok (.aload_n 0, 1) := by decide +kernel
theorem dX8_follow_39 : decode cX8_follow 39 = .ok (.iconst 0, 1) := by decide +kernel
theorem dX8_follow_40 : decode cX8_follow 40 = .ok (.putfield 43, 3) := by decide +kernel
theorem dX8_follow_43 : decode cX8_follow 43 = .ok (.aload_n 0, 1) := by decide +kernel
theorem dX8_follow_44 : decode cX8_follow 44 = .ok (.iconst 0, 1) := by decide +kernel
theorem dX8_follow_45 : decode cX8_follow 45 = .ok (.putfield 46, 3) := by decide +kernel
theorem dX8_follow_48 : decode cX8_follow 48 = .ok (.aload_n 0, 1) := by decide +kernel
theorem dX8_follow_49 : decode cX8_follow 49 = .ok (.iconst (-1), 1) := by decide +kernel
theorem dX8_follow_50 : decode cX8_follow 50 = .ok (.putfield 49, 3) := by decide +kernel
theorem dX8_follow_53 : decode cX8_follow 53 = .ok (.iconst 0, 1) := by decide +kernel
theorem dX8_follow_54 : decode cX8_follow 54 = .ok (.istore 4, 2) := by decide +kernel
theorem dX8_follow_56 : decode cX8_follow 56 = .ok (.iload 4, 2) := by decide +kernel
theorem dX8_follow_58 : decode cX8_follow 58 = .ok (.sipush 400, 3) := by decide +kernel
theorem dX8_follow_61 : decode cX8_follow 61 = .ok (.if_icmp .ge 34, 3) := by decide +kernel
theorem dX8_follow_64 : decode cX8_follow 64 = .ok (.aload_n 0, 1) := by decide +kernel
theorem dX8_follow_65 : decode cX8_follow 65 = .ok (.getfield 49, 3) := by decide +kernel
theorem dX8_follow_68 : decode cX8_follow 68 = .ok (.iconst (-1), 1) := by decide +kernel
theorem dX8_follow_69 : decode cX8_follow 69 = .ok (.if_icmp .ne 26, 3) := by decide +kernel
theorem dX8_follow_72 : decode cX8_follow 72 = .ok (.aload_n 1, 1) := by decide +kernel
theorem dX8_follow_73 : decode cX8_follow 73 = .ok (.aload_n 0, 1) := by decide +kernel
theorem dX8_follow_74 : decode cX8_follow 74 = .ok (.getfield 46, 3) := by decide +kernel
theorem dX8_follow_77 : decode cX8_follow 77 = .ok (.invokevirtual 52, 3) := by decide +kernel
theorem dX8_follow_80 : decode cX8_follow 80 = .ok (.ifCond .eq 15, 3) := by decide +kernel
theorem dX8_follow_83 : decode cX8_follow 83 = .ok (.aload_n 0, 1) := by decide +kernel
theorem dX8_follow_84 : decode cX8_follow 84 = .ok (.aload_n 1, 1) := by decide +kernel
theorem dX8_follow_85 : decode cX8_follow 85 = .ok (.aload_n 2, 1) := by decide +kernel
theorem dX8_follow_86 : decode cX8_follow 86 = .ok (.invokevirtual 58, 3) := by decide +kernel
theorem dX8_follow_89 : decode cX8_follow 89 = .ok (.iinc 4 1, 3) := by decide +kernel
theorem dX8_follow_92 : decode cX8_follow 92 = .ok (.goto (-36), 3) := by decide +kernel
theorem dX8_follow_95 : decode cX8_follow 95 = .ok (.aload_n 0, 1) := by decide +kernel
theorem dX8_follow_96 : decode cX8_follow 96 = .ok (.aload_n 0, 1) := by decide +kernel
theorem dX8_follow_97 : decode cX8_follow 97 = .ok (.getfield 49, 3) := by decide +kernel
theorem dX8_follow_100 : decode cX8_follow 100 = .ok (.iconst (-1), 1) := by decide +kernel
theorem dX8_follow_101 : decode cX8_follow 101 = .ok (.if_icmp .ne 7, 3) := by decide +kernel
theorem dX8_follow_104 : decode cX8_follow 104 = .ok (.iconst 1, 1) := by decide +kernel
theorem dX8_follow_105 : decode cX8_follow 105 = .ok (.goto 7, 3) := by decide +kernel
theorem dX8_follow_108 : decode cX8_follow 108 = .ok (.aload_n 0, 1) := by decide +kernel
theorem dX8_follow_109 : decode cX8_follow 109 = .ok (.getfield 49, 3) := by decide +kernel
theorem dX8_follow_112 : decode cX8_follow 112 = .ok (.putfield 49, 3) := by decide +kernel
theorem dX8_follow_115 : decode cX8_follow 115 = .ok (.return_, 1) := by decide +kernel
theorem dX8_step_0 : decode cX8_step 0 = .ok (.aload_n 0, 1) := by decide +kernel
theorem dX8_step_1 : decode cX8_step 1 = .ok (.dup, 1) := by decide +kernel
theorem dX8_step_2 : decode cX8_step 2 = .ok (.getfield 36, 3) := by decide +kernel
theorem dX8_step_5 : decode cX8_step 5 = .ok (.iconst 1, 1) := by decide +kernel
theorem dX8_step_6 : decode cX8_step 6 = .ok (.iadd, 1) := by decide +kernel
theorem dX8_step_7 : decode cX8_step 7 = .ok (.putfield 36, 3) := by decide +kernel
theorem dX8_step_10 : decode cX8_step 10 = .ok (.aload_n 0, 1) := by decide +kernel
theorem dX8_step_11 : decode cX8_step 11 = .ok (.aload_n 1, 1) := by decide +kernel
theorem dX8_step_12 : decode cX8_step 12 = .ok (.aload_n 2, 1) := by decide +kernel
theorem dX8_step_13 : decode cX8_step 13 = .ok (.invokevirtual 62, 3) := by decide +kernel
theorem dX8_step_16 : decode cX8_step 16 = .ok (.ifCond .eq 12, 3) := by decide +kernel
theorem dX8_step_19 : decode cX8_step 19 = .ok (.aload_n 0, 1) := by decide +kernel
theorem dX8_step_20 : decode cX8_step 20 = .ok (.aload_n 1, 1) := by decide +kernel
theorem dX8_step_21 : decode cX8_step 21 = .ok (.aload_n 2, 1) := by decide +kernel
theorem dX8_step_22 : decode cX8_step 22 = .ok (.invokevirtual 66, 3) := by decide +kernel
theorem dX8_step_25 : decode cX8_step 25 = .ok (.ifCond .ne 11, 3) := by decide +kernel
theorem dX8_step_28 : decode cX8_step 28 = .ok (.aload_n 0, 1) := by decide +kernel
theorem dX8_step_29 : decode cX8_step 29 = .ok (.iconst 2, 1) := by decide +kernel
theorem dX8_step_30 : decode cX8_step 30 = .ok (.putfield 49, 3) := by decide +kernel
theorem dX8_step_33 : decode cX8_step 33 = .ok (.goto 31, 3) := by decide +kernel
theorem dX8_step_36 : decode cX8_step 36 = .ok (.aload_n 1, 1) := by decide +kernel
theorem dX8_step_37 : decode cX8_step 37 = .ok (.aload_n 0, 1) := by decide +kernel
theorem dX8_step_38 : decode cX8_step 38 = .ok (.getfield 46, 3) := by decide +kernel
theorem dX8_step_41 : decode cX8_step 41 = .ok (.invokevirtual 69, 3) := by decide +kernel
theorem dX8_step_44 : decode cX8_step 44 = .ok (.ifCond .ne 11, 3) := by decide +kernel
theorem dX8_step_47 : decode cX8_step 47 = .ok (.aload_n 0, 1) := by decide +kernel
theorem dX8_step_48 : decode cX8_step 48 = .ok (.iconst 0, 1) := by decide +kernel
theorem dX8_step_49 : decode cX8_step 49 = .ok (.putfield 49, 3) := by decide +kernel
theorem dX8_step_52 : decode cX8_step 52 = .ok (.goto 12, 3) := by decide +kernel
theorem dX8_step_55 : decode cX8_step 55 = .ok (.aload_n 0, 1) := by decide +kernel
theorem dX8_step_56 : decode cX8_step 56 = .ok (.aload_n 0, 1) := by decide +kernel
theorem dX8_step_57 : decode cX8_step 57 = .ok (.aload_n 1, 1) := by decide +kernel
theorem dX8_step_58 : decode cX8_step 58 = .ok (.invokevirtual 73, 3) := by decide +kernel
theorem dX8_step_61 : decode cX8_step 61 = .ok (.putfield 46, 3) := by decide +kernel
theorem dX8_step_64 : decode cX8_step 64 = .ok (.return_, 1) := by decide +kernel
theorem dX8_putIn_0 : decode cX8_putIn 0 = .ok (.aload_n 2, 1) := by decide +kernel
theorem dX8_putIn_1 : decode cX8_putIn 1 = .ok (.getfield 77, 3) := by decide +kernel
theorem dX8_putIn_4 : decode cX8_putIn 4 = .ok (.aload_n 0, 1) := by decide +kernel
theorem dX8_putIn_5 : decode cX8_putIn 5 = .ok (.getfield 46, 3) := by decide +kernel
theorem dX8_putIn_8 : decode cX8_putIn 8 = .ok (.iaload, 1) := by decide +kernel
theorem dX8_putIn_9 : decode cX8_putIn 9 = .ok (.istore_n 3, 1) := by decide +kernel
theorem dX8_putIn_10 : decode cX8_putIn 10 = .ok (.iconst 0, 1) := by decide +kernel
theorem dX8_putIn_11 : decode cX8_putIn 11 = .ok (.istore 4, 2) := by decide +kernel
theorem dX8_putIn_13 : decode cX8_putIn 13 = .ok (.iload 4, 2) := by decide +kernel
theorem dX8_putIn_15 : decode cX8_putIn 15 = .ok (.aload_n 1, 1) := by decide +kernel
theorem dX8_putIn_16 : decode cX8_putIn 16 = .ok (.getfield 82, 3) := by decide +kernel
theorem dX8_putIn_19 : decode cX8_putIn 19 = .ok (.getfield 86, 3) := by decide +kernel
theorem dX8_putIn_22 : decode cX8_putIn 22 = .ok (.if_icmp .ge 52, 3) := by decide +kernel
theorem dX8_putIn_25 : decode cX8_putIn 25 = .ok (.iload_n 3, 1) := by decide +kernel
theorem dX8_putIn_26 : decode cX8_putIn 26 = .ok (.iload 4, 2) := by decide +kernel
theorem dX8_putIn_28 : decode cX8_putIn 28 = .ok (.iushr, 1) := by decide +kernel
theorem dX8_putIn_29 : decode cX8_putIn 29 = .ok (.ifCond .eq 45, 3) := by decide +kernel
theorem dX8_putIn_32 : decode cX8_putIn 32 = .ok (.iload_n 3, 1) := by decide +kernel
theorem dX8_putIn_33 : decode cX8_putIn 33 = .ok (.iload 4, 2) := by decide +kernel
theorem dX8_putIn_35 : decode cX8_putIn 35 = .ok (.invokestatic 91, 3) := by decide +kernel
theorem dX8_putIn_38 : decode cX8_putIn 38 = .ok (.iconst 1, 1) := by decide +kernel
theorem dX8_putIn_39 : decode cX8_putIn 39 = .ok (.if_icmp .ne 29, 3) := by decide +kernel
theorem dX8_putIn_42 : decode cX8_putIn 42 = .ok (.aload_n 0, 1) := by decide +kernel
theorem dX8_putIn_43 : decode cX8_putIn 43 = .ok (.aload_n 1, 1) := by decide +kernel
theorem dX8_putIn_44 : decode cX8_putIn 44 = .ok (.getfield 82, 3) := by decide +kernel
theorem dX8_putIn_47 : decode cX8_putIn 47 = .ok (.iload 4, 2) := by decide +kernel
theorem dX8_putIn_49 : decode cX8_putIn 49 = .ok (.invokevirtual 95, 3) := by decide +kernel
theorem dX8_putIn_52 : decode cX8_putIn 52 = .ok (.ifCond .ne 5, 3) := by decide +kernel
theorem dX8_putIn_55 : decode cX8_putIn 55 = .ok (.iconst 0, 1) := by decide +kernel
theorem dX8_putIn_56 : decode cX8_putIn 56 = .ok (.ireturn, 1) := by decide +kernel
theorem dX8_putIn_57 : decode cX8_putIn 57 = .ok (.aload_n 0, 1) := by decide +kernel
theorem dX8_putIn_58 : decode cX8_putIn 58 = .ok (.getfield 21, 3) := by decide +kernel
theorem dX8_putIn_61 : decode cX8_putIn 61 = .ok (.iload 4, 2) := by decide +kernel
theorem dX8_putIn_63 : decode cX8_putIn 63 = .ok (.aload_n 0, 1) := by decide +kernel
theorem dX8_putIn_64 : decode cX8_putIn 64 = .ok (.getfield 99, 3) := by decide +kernel
theorem dX8_putIn_67 : decode cX8_putIn 67 = .ok (.iastore, 1) := by decide +kernel
theorem dX8_putIn_68 : decode cX8_putIn 68 = .ok (.iinc 4 1, 3) := by decide +kernel
theorem dX8_putIn_71 : decode cX8_putIn 71 = .ok (.goto (-58), 3) := by decide +kernel
theorem dX8_putIn_74 : decode cX8_putIn 74 = .ok (.iconst 1, 1) := by decide +kernel
theorem dX8_putIn_75 : decode cX8_putIn 75 = .ok (.ireturn, 1) := by decide +kernel
theorem dX8_doNode_0 : decode cX8_doNode 0 = .ok (.aload_n 1, 1) := by decide +kernel
theorem dX8_doNode_1 : decode cX8_doNode 1 = .ok (.getfield 102, 3) := by decide +kernel
theorem dX8_doNode_4 : decode cX8_doNode 4 = .ok (.aload_n 0, 1) := by decide +kernel
theorem dX8_doNode_5 : decode cX8_doNode 5 = .ok (.getfield 46, 3) := by decide +kernel
theorem dX8_doNode_8 : decode cX8_doNode 8 = .ok (.iaload, 1) := by decide +kernel
theorem dX8_doNode_9 : decode cX8_doNode 9 = .ok (.tableswitch 81 1 3 #[27, 55, 62], 27) := by decide +kernel
theorem dX8_doNode_36 : decode cX8_doNode 36 = .ok (.aload_n 0, 1) := by decide +kernel
theorem dX8_doNode_37 : decode cX8_doNode 37 = .ok (.aload_n 1, 1) := by decide +kernel
theorem dX8_doNode_38 : decode cX8_doNode 38 = .ok (.getfield 105, 3) := by decide +kernel
theorem dX8_doNode_41 : decode cX8_doNode 41 = .ok (.aload_n 0, 1) := by decide +kernel
theorem dX8_doNode_42 : decode cX8_doNode 42 = .ok (.getfield 46, 3) := by decide +kernel
theorem dX8_doNode_45 : decode cX8_doNode 45 = .ok (.iaload, 1) := by decide +kernel
theorem dX8_doNode_46 : decode cX8_doNode 46 = .ok (.aload_n 0, 1) := by decide +kernel
theorem dX8_doNode_47 : decode cX8_doNode 47 = .ok (.aload_n 1, 1) := by decide +kernel
theorem dX8_doNode_48 : decode cX8_doNode 48 = .ok (.getfield 108, 3) := by decide +kernel
theorem dX8_doNode_51 : decode cX8_doNode 51 = .ok (.aload_n 0, 1) := by decide +kernel
theorem dX8_doNode_52 : decode cX8_doNode 52 = .ok (.getfield 46, 3) := by decide +kernel
theorem dX8_doNode_55 : decode cX8_doNode 55 = .ok (.iaload, 1) := by decide +kernel
theorem dX8_doNode_56 : decode cX8_doNode 56 = .ok (.invokevirtual 111, 3) := by decide +kernel
theorem dX8_doNode_59 : decode cX8_doNode 59 = .ok (.invokevirtual 114, 3) := by decide +kernel
theorem dX8_doNode_62 : decode cX8_doNode 62 = .ok (.iconst 1, 1) := by decide +kernel
theorem dX8_doNode_63 : decode cX8_doNode 63 = .ok (.ireturn, 1) := by decide +kernel
theorem dX8_doNode_64 : decode cX8_doNode 64 = .ok (.aload_n 0, 1) := by decide +kernel
theorem dX8_doNode_65 : decode cX8_doNode 65 = .ok (.aload_n 1, 1) := by decide +kernel
theorem dX8_doNode_66 : decode cX8_doNode 66 = .ok (.aload_n 2, 1) := by decide +kernel
theorem dX8_doNode_67 : decode cX8_doNode 67 = .ok (.invokevirtual 118, 3) := by decide +kernel
theorem dX8_doNode_70 : decode cX8_doNode 70 = .ok (.ireturn, 1) := by decide +kernel
theorem dX8_doNode_71 : decode cX8_doNode 71 = .ok (.aload_n 0, 1) := by decide +kernel
theorem dX8_doNode_72 : decode cX8_doNode 72 = .ok (.aload_n 0, 1) := by decide +kernel
theorem dX8_doNode_73 : decode cX8_doNode 73 = .ok (.aload_n 1, 1) := by decide +kernel
theorem dX8_doNode_74 : decode cX8_doNode 74 = .ok (.getfield 108, 3) := by decide +kernel
theorem dX8_doNode_77 : decode cX8_doNode 77 = .ok (.aload_n 0, 1) := by decide +kernel
theorem dX8_doNode_78 : decode cX8_doNode 78 = .ok (.getfield 46, 3) := by decide +kernel
theorem dX8_doNode_81 : decode cX8_doNode 81 = .ok (.iaload, 1) := by decide +kernel
theorem dX8_doNode_82 : decode cX8_doNode 82 = .ok (.invokevirtual 111, 3) := by decide +kernel
theorem dX8_doNode_85 : decode cX8_doNode 85 = .ok (.invokevirtual 121, 3) := by decide +kernel
theorem dX8_doNode_88 : decode cX8_doNode 88 = .ok (.iconst 1, 1) := by decide +kernel
theorem dX8_doNode_89 : decode cX8_doNode 89 = .ok (.ireturn, 1) := by decide +kernel
theorem dX8_doNode_90 : decode cX8_doNode 90 = .ok (.iconst 1, 1) := by decide +kernel
theorem dX8_doNode_91 : decode cX8_doNode 91 = .ok (.ireturn, 1) := by decide +kernel
theorem dX8_assign_0 : decode cX8_assign 0 = .ok (.aload_n 1, 1) := by decide +kernel
theorem dX8_assign_1 : decode cX8_assign 1 = .ok (.getfield 125, 3) := by decide +kernel
theorem dX8_assign_4 : decode cX8_assign 4 = .ok (.aload_n 0, 1) := by decide +kernel
theorem dX8_assign_5 : decode cX8_assign 5 = .ok (.getfield 46, 3) := by decide +kernel
theorem dX8_assign_8 : decode cX8_assign 8 = .ok (.iaload, 1) := by decide +kernel
theorem dX8_assign_9 : decode cX8_assign 9 = .ok (.istore_n 3, 1) := by decide +kernel
theorem dX8_assign_10 : decode cX8_assign 10 = .ok (.aload_n 1, 1) := by decide +kernel
theorem dX8_assign_11 : decode cX8_assign 11 = .ok (.getfield 82, 3) := by decide +kernel
theorem dX8_assign_14 : decode cX8_assign 14 = .ok (.iload_n 3, 1) := by decide +kernel
theorem dX8_assign_15 : decode cX8_assign 15 = .ok (.invokevirtual 128, 3) := by decide +kernel
theorem dX8_assign_18 : decode cX8_assign 18 = .ok (.ifCond .ne 5, 3) := by decide +kernel
theorem dX8_assign_21 : decode cX8_assign 21 = .ok (.iconst 0, 1) := by decide +kernel
theorem dX8_assign_22 : decode cX8_assign 22 = .ok (.ireturn, 1) := by decide +kernel
theorem dX8_assign_23 : decode cX8_assign 23 = .ok (.aload_n 2, 1) := by decide +kernel
theorem dX8_assign_24 : decode cX8_assign 24 = .ok (.getfield 131, 3) := by decide +kernel
theorem dX8_assign_27 : decode cX8_assign 27 = .ok (.aload_n 0, 1) := by decide +kernel
theorem dX8_assign_28 : decode cX8_assign 28 = .ok (.getfield 46, 3) := by decide +kernel
theorem dX8_assign_31 : decode cX8_assign 31 = .ok (.iaload, 1) := by decide +kernel
theorem dX8_assign_32 : decode cX8_assign 32 = .ok (.ifCond .eq 16, 3) := by decide +kernel
theorem dX8_assign_35 : decode cX8_assign 35 = .ok (.aload_n 0, 1) := by decide +kernel
theorem dX8_assign_36 : decode cX8_assign 36 = .ok (.aload_n 0, 1) := by decide +kernel
theorem dX8_assign_37 : decode cX8_assign 37 = .ok (.getfield 21, 3) := by decide +kernel
theorem dX8_assign_40 : decode cX8_assign 40 = .ok (.iload_n 3, 1) := by decide +kernel
theorem dX8_assign_41 : decode cX8_assign 41 = .ok (.iaload, 1) := by decide +kernel
theorem dX8_assign_42 : decode cX8_assign 42 = .ok (.putfield 99, 3) := by decide +kernel
theorem dX8_assign_45 : decode cX8_assign 45 = .ok (.goto 17, 3) := by decide +kernel
theorem dX8_assign_48 : decode cX8_assign 48 = .ok (.aload_n 0, 1) := by decide +kernel
theorem dX8_assign_49 : decode cX8_assign 49 = .ok (.aload_n 1, 1) := by decide +kernel
theorem dX8_assign_50 : decode cX8_assign 50 = .ok (.getfield 82, 3) := by decide +kernel
theorem dX8_assign_53 : decode cX8_assign 53 = .ok (.iload_n 3, 1) := by decide +kernel
theorem dX8_assign_54 : decode cX8_assign 54 = .ok (.invokevirtual 95, 3) := by decide +kernel
theorem dX8_assign_57 : decode cX8_assign 57 = .ok (.ifCond .ne 5, 3) := by decide +kernel
theorem dX8_assign_60 : decode cX8_assign 60 = .ok (.iconst 0, 1) := by decide +kernel
theorem dX8_assign_61 : decode cX8_assign 61 = .ok (.ireturn, 1) := by decide +kernel
theorem dX8_assign_62 : decode cX8_assign 62 = .ok (.aload_n 0, 1) := by decide +kernel
theorem dX8_assign_63 : decode cX8_assign 63 = .ok (.aload_n 1, 1) := by decide +kernel
theorem dX8_assign_64 : decode cX8_assign 64 = .ok (.getfield 105, 3) := by decide +kernel
theorem dX8_assign_67 : decode cX8_assign 67 = .ok (.aload_n 0, 1) := by decide +kernel
theorem dX8_assign_68 : decode cX8_assign 68 = .ok (.getfield 46, 3) := by decide +kernel
theorem dX8_assign_71 : decode cX8_assign 71 = .ok (.iaload, 1) := by decide +kernel
theorem dX8_assign_72 : decode cX8_assign 72 = .ok (.aload_n 0, 1) := by decide +kernel
theorem dX8_assign_73 : decode cX8_assign 73 = .ok (.getfield 99, 3) := by decide +kernel
theorem dX8_assign_76 : decode cX8_assign 76 = .ok (.invokevirtual 114, 3) := by decide +kernel
theorem dX8_assign_79 : decode cX8_assign 79 = .ok (.iconst 1, 1) := by decide +kernel
theorem dX8_assign_80 : decode cX8_assign 80 = .ok (.ireturn, 1) := by decide +kernel
theorem dX8_nextNode_0 : decode cX8_nextNode 0 = .ok (.aload_n 1, 1) := by decide +kernel
theorem dX8_nextNode_1 : decode cX8_nextNode 1 = .ok (.getfield 134, 3) := by decide +kernel
theorem dX8_nextNode_4 : decode cX8_nextNode 4 = .ok (.aload_n 0, 1) := by decide +kernel
theorem dX8_nextNode_5 : decode cX8_nextNode 5 = .ok (.getfield 46, 3) := by decide +kernel
theorem dX8_nextNode_8 : decode cX8_nextNode 8 = .ok (.iaload, 1) := by decide +kernel
theorem dX8_nextNode_9 : decode cX8_nextNode 9 = .ok (.iconst (-1), 1) := by decide +kernel
theorem dX8_nextNode_10 : decode cX8_nextNode 10 = .ok (.if_icmp .ne 7, 3) := by decide +kernel
theorem dX8_nextNode_13 : decode cX8_nextNode 13 = .ok (.iconst 1, 1) := by decide +kernel
theorem dX8_nextNode_14 : decode cX8_nextNode 14 = .ok (.goto 4, 3) := by decide +kernel
theorem dX8_nextNode_17 : decode cX8_nextNode 17 = .ok (.iconst 0, 1) := by decide +kernel
theorem dX8_nextNode_18 : decode cX8_nextNode 18 = .ok (.istore_n 2, 1) := by decide +kernel
theorem dX8_nextNode_19 : decode cX8_nextNode 19 = .ok (.iload_n 2, 1) := by decide +kernel
theorem dX8_nextNode_20 : decode cX8_nextNode 20 = .ok (.ifCond .ne 19, 3) := by decide +kernel
theorem dX8_nextNode_23 : decode cX8_nextNode 23 = .ok (.aload_n 0, 1) := by decide +kernel
theorem dX8_nextNode_24 : decode cX8_nextNode 24 = .ok (.aload_n 1, 1) := by decide +kernel
theorem dX8_nextNode_25 : decode cX8_nextNode 25 = .ok (.getfield 105, 3) := by decide +kernel
theorem dX8_nextNode_28 : decode cX8_nextNode 28 = .ok (.aload_n 0, 1) := by decide +kernel
theorem dX8_nextNode_29 : decode cX8_nextNode 29 = .ok (.getfield 46, 3) := by decide +kernel
theorem dX8_nextNode_32 : decode cX8_nextNode 32 = .ok (.iaload, 1) := by decide +kernel
theorem dX8_nextNode_33 : decode cX8_nextNode 33 = .ok (.invokevirtual 111, 3) := by decide +kernel
theorem dX8_nextNode_36 : decode cX8_nextNode 36 = .ok (.ifCond .eq 15, 3) := by decide +kernel
theorem dX8_nextNode_39 : decode cX8_nextNode 39 = .ok (.aload_n 1, 1) := by decide +kernel
theorem dX8_nextNode_40 : decode cX8_nextNode 40 = .ok (.getfield 137, 3) := by decide +kernel
theorem dX8_nextNode_43 : decode cX8_nextNode 43 = .ok (.aload_n 0, 1) := by decide +kernel
theorem dX8_nextNode_44 : decode cX8_nextNode 44 = .ok (.getfield 46, 3) := by decide +kernel
theorem dX8_nextNode_47 : decode cX8_nextNode 47 = .ok (.iaload, 1) := by decide +kernel
theorem dX8_nextNode_48 : decode cX8_nextNode 48 = .ok (.goto 12, 3) := by decide +kernel
theorem dX8_nextNode_51 : decode cX8_nextNode 51 = .ok (.aload_n 1, 1) := by decide +kernel
theorem dX8_nextNode_52 : decode cX8_nextNode 52 = .ok (.getfield 134, 3) := by decide +kernel
theorem dX8_nextNode_55 : decode cX8_nextNode 55 = .ok (.aload_n 0, 1) := by decide +kernel
theorem dX8_nextNode_56 : decode cX8_nextNode 56 = .ok (.getfield 46, 3) := by decide +kernel
theorem dX8_nextNode_59 : decode cX8_nextNode 59 = .ok (.iaload, 1) := by decide +kernel
theorem dX8_nextNode_60 : decode cX8_nextNode 60 = .ok (.ireturn, 1) := by decide +kernel
theorem dX8_setLetter_0 : decode cX8_setLetter 0 = .ok (.iload_n 1, 1) := by decide +kernel
theorem dX8_setLetter_1 : decode cX8_setLetter 1 = .ok (.ifCond .lt 16, 3) := by decide +kernel
theorem dX8_setLetter_4 : decode cX8_setLetter 4 = .ok (.iload_n 1, 1) := by decide +kernel
theorem dX8_setLetter_5 : decode cX8_setLetter 5 = .ok (.bipush 26, 2) := by decide +kernel
theorem dX8_setLetter_7 : decode cX8_setLetter 7 = .ok (.if_icmp .ge 10, 3) := by decide +kernel
theorem dX8_setLetter_10 : decode cX8_setLetter 10 = .ok (.aload_n 0, 1) := by decide +kernel
theorem dX8_setLetter_11 : decode cX8_setLetter 11 = .ok (.getfield 9, 3) := by decide +kernel
theorem dX8_setLetter_14 : decode cX8_setLetter 14 = .ok (.iload_n 1, 1) := by decide +kernel
theorem dX8_setLetter_15 : decode cX8_setLetter 15 = .ok (.iload_n 2, 1) := by decide +kernel
theorem dX8_setLetter_16 : decode cX8_setLetter 16 = .ok (.iastore, 1) := by decide +kernel
theorem dX8_setLetter_17 : decode cX8_setLetter 17 = .ok (.return_, 1) := by decide +kernel
theorem dX8_writeOut_0 : decode cX8_writeOut 0 = .ok (.aload_n 0, 1) := by decide +kernel
theorem dX8_writeOut_1 : decode cX8_writeOut 1 = .ok (.getfield 43, 3) := by decide +kernel
theorem dX8_writeOut_4 : decode cX8_writeOut 4 = .ok (.bipush 40, 2) := by decide +kernel
theorem dX8_writeOut_6 : decode cX8_writeOut 6 = .ok (.if_icmp .ge 13, 3) := by decide +kernel
theorem dX8_writeOut_9 : decode cX8_writeOut 9 = .ok (.aload_n 0, 1) := by decide +kernel
theorem dX8_writeOut_10 : decode cX8_writeOut 10 = .ok (.getfield 15, 3) := by decide +kernel
theorem dX8_writeOut_13 : decode cX8_writeOut 13 = .ok (.aload_n 0, 1) := by decide +kernel
theorem dX8_writeOut_14 : decode cX8_writeOut 14 = .ok (.getfield 43, 3) := by decide +kernel
theorem dX8_writeOut_17 : decode cX8_writeOut 17 = .ok (.iload_n 1, 1) := by decide +kernel
theorem dX8_writeOut_18 : decode cX8_writeOut 18 = .ok (.iastore, 1) := by decide +kernel
theorem dX8_writeOut_19 : decode cX8_writeOut 19 = .ok (.aload_n 0, 1) := by decide +kernel
theorem dX8_writeOut_20 : decode cX8_writeOut 20 = .ok (.dup, 1) := by decide +kernel
theorem dX8_writeOut_21 : decode cX8_writeOut 21 = .ok (.getfield 43, 3) := by decide +kernel
theorem dX8_writeOut_24 : decode cX8_writeOut 24 = .ok (.iconst 1, 1) := by decide +kernel
theorem dX8_writeOut_25 : decode cX8_writeOut 25 = .ok (.iadd, 1) := by decide +kernel
theorem dX8_writeOut_26 : decode cX8_writeOut 26 = .ok (.putfield 43, 3) := by decide +kernel
theorem dX8_writeOut_29 : decode cX8_writeOut 29 = .ok (.return_, 1) := by decide +kernel
theorem dX8_valueOf_0 : decode cX8_valueOf 0 = .ok (.iload_n 1, 1) := by decide +kernel
theorem dX8_valueOf_1 : decode cX8_valueOf 1 = .ok (.ifCond .ge 5, 3) := by decide +kernel
theorem dX8_valueOf_4 : decode cX8_valueOf 4 = .ok (.iconst 0, 1) := by decide +kernel
theorem dX8_valueOf_5 : decode cX8_valueOf 5 = .ok (.ireturn, 1) := by decide +kernel
theorem dX8_valueOf_6 : decode cX8_valueOf 6 = .ok (.iload_n 1, 1) := by decide +kernel
theorem dX8_valueOf_7 : decode cX8_valueOf 7 = .ok (.bipush 26, 2) := by decide +kernel
theorem dX8_valueOf_9 : decode cX8_valueOf 9 = .ok (.if_icmp .ge 12, 3) := by decide +kernel
theorem dX8_valueOf_12 : decode cX8_valueOf 12 = .ok (.aload_n 0, 1) := by decide +kernel
theorem dX8_valueOf_13 : decode cX8_valueOf 13 = .ok (.getfield 9, 3) := by decide +kernel
theorem dX8_valueOf_16 : decode cX8_valueOf 16 = .ok (.iload_n 1, 1) := by decide +kernel
theorem dX8_valueOf_17 : decode cX8_valueOf 17 = .ok (.iaload, 1) := by decide +kernel
theorem dX8_valueOf_18 : decode cX8_valueOf 18 = .ok (.goto 7, 3) := by decide +kernel
theorem dX8_valueOf_21 : decode cX8_valueOf 21 = .ok (.iload_n 1, 1) := by decide +kernel
theorem dX8_valueOf_22 : decode cX8_valueOf 22 = .ok (.bipush 26, 2) := by decide +kernel
theorem dX8_valueOf_24 : decode cX8_valueOf 24 = .ok (.isub, 1) := by decide +kernel
theorem dX8_valueOf_25 : decode cX8_valueOf 25 = .ok (.ireturn, 1) := by decide +kernel
theorem dX8_compute_0 : decode cX8_compute 0 = .ok (.aload_n 0, 1) := by decide +kernel
theorem dX8_compute_1 : decode cX8_compute 1 = .ok (.getfield 18, 3) := by decide +kernel
theorem dX8_compute_4 : decode cX8_compute 4 = .ok (.iload_n 2, 1) := by decide +kernel
theorem dX8_compute_5 : decode cX8_compute 5 = .ok (.dup2, 1) := by decide +kernel
theorem dX8_compute_6 : decode cX8_compute 6 = .ok (.iaload, 1) := by decide +kernel
theorem dX8_compute_7 : decode cX8_compute 7 = .ok (.iconst 1, 1) := by decide +kernel
theorem dX8_compute_8 : decode cX8_compute 8 = .ok (.iadd, 1) := by decide +kernel
theorem dX8_compute_9 : decode cX8_compute 9 = .ok (.iastore, 1) := by decide +kernel
theorem dX8_compute_10 : decode cX8_compute 10 = .ok (.aload_n 0, 1) := by decide +kernel
theorem dX8_compute_11 : decode cX8_compute 11 = .ok (.dup, 1) := by decide +kernel
theorem dX8_compute_12 : decode cX8_compute 12 = .ok (.getfield 40, 3) := by decide +kernel
theorem dX8_compute_15 : decode cX8_compute 15 = .ok (.iconst 1, 1) := by decide +kernel
theorem dX8_compute_16 : decode cX8_compute 16 = .ok (.iadd, 1) := by decide +kernel
theorem dX8_compute_17 : decode cX8_compute 17 = .ok (.putfield 40, 3) := by decide +kernel
theorem dX8_compute_20 : decode cX8_compute 20 = .ok (.aload_n 0, 1) := by decide +kernel
theorem dX8_compute_21 : decode cX8_compute 21 = .ok (.aload_n 1, 1) := by decide +kernel
theorem dX8_compute_22 : decode cX8_compute 22 = .ok (.getfield 140, 3) := by decide +kernel
theorem dX8_compute_25 : decode cX8_compute 25 = .ok (.iload_n 2, 1) := by decide +kernel
theorem dX8_compute_26 : decode cX8_compute 26 = .ok (.iaload, 1) := by decide +kernel
theorem dX8_compute_27 : decode cX8_compute 27 = .ok (.invokevirtual 111, 3) := by decide +kernel
theorem dX8_compute_30 : decode cX8_compute 30 = .ok (.istore_n 3, 1) := by decide +kernel
theorem dX8_compute_31 : decode cX8_compute 31 = .ok (.aload_n 0, 1) := by decide +kernel
theorem dX8_compute_32 : decode cX8_compute 32 = .ok (.aload_n 1, 1) := by decide +kernel
theorem dX8_compute_33 : decode cX8_compute 33 = .ok (.getfield 143, 3) := by decide +kernel
theorem dX8_compute_36 : decode cX8_compute 36 = .ok (.iload_n 2, 1) := by decide +kernel
theorem dX8_compute_37 : decode cX8_compute 37 = .ok (.iaload, 1) := by decide +kernel
theorem dX8_compute_38 : decode cX8_compute 38 = .ok (.invokevirtual 111, 3) := by decide +kernel
theorem dX8_compute_41 : decode cX8_compute 41 = .ok (.istore 4, 2) := by decide +kernel
theorem dX8_compute_43 : decode cX8_compute 43 = .ok (.aload_n 1, 1) := by decide +kernel
theorem dX8_compute_44 : decode cX8_compute 44 = .ok (.getfield 146, 3) := by decide +kernel
theorem dX8_compute_47 : decode cX8_compute 47 = .ok (.iload_n 2, 1) := by decide +kernel
theorem dX8_compute_48 : decode cX8_compute 48 = .ok (.iaload, 1) := by decide +kernel
theorem dX8_compute_49 : decode cX8_compute 49 = .ok (.lookupswitch 111 #[(38, 81), (42, 71), (43, 51), (45, 61), (60, 91)], 51) := by decide +kernel
theorem dX8_compute_100 : decode cX8_compute 100 = .ok (.aload_n 0, 1) := by decide +kernel
theorem dX8_compute_101 : decode cX8_compute 101 = .ok (.iload_n 3, 1) := by decide +kernel
theorem dX8_compute_102 : decode cX8_compute 102 = .ok (.iload 4, 2) := by decide +kernel
theorem dX8_compute_104 : decode cX8_compute 104 = .ok (.iadd, 1) := by decide +kernel
theorem dX8_compute_105 : decode cX8_compute 105 = .ok (.putfield 99, 3) := by decide +kernel
theorem dX8_compute_108 : decode cX8_compute 108 = .ok (.iconst 1, 1) := by decide +kernel
theorem dX8_compute_109 : decode cX8_compute 109 = .ok (.ireturn, 1) := by decide +kernel
theorem dX8_compute_110 : decode cX8_compute 110 = .ok (.aload_n 0, 1) := by decide +kernel
theorem dX8_compute_111 : decode cX8_compute 111 = .ok (.iload_n 3, 1) := by decide +kernel
theorem dX8_compute_112 : decode cX8_compute 112 = .ok (.iload 4, 2) := by decide +kernel
theorem dX8_compute_114 : decode cX8_compute 114 = .ok (.isub, 1) := by decide +kernel
theorem dX8_compute_115 : decode cX8_compute 115 = .ok (.putfield 99, 3) := by decide +kernel
theorem dX8_compute_118 : decode cX8_compute 118 = .ok (.iconst 1, 1) := by decide +kernel
theorem dX8_compute_119 : decode cX8_compute 119 = .ok (.ireturn, 1) := by decide +kernel
theorem dX8_compute_120 : decode cX8_compute 120 = .ok (.aload_n 0, 1) := by decide +kernel
theorem dX8_compute_121 : decode cX8_compute 121 = .ok (.iload_n 3, 1) := by decide +kernel
theorem dX8_compute_122 : decode cX8_compute 122 = .ok (.iload 4, 2) := by decide +kernel
theorem dX8_compute_124 : decode cX8_compute 124 = .ok (.imul, 1) := by decide +kernel
theorem dX8_compute_125 : decode cX8_compute 125 = .ok (.putfield 99, 3) := by decide +kernel
theorem dX8_compute_128 : decode cX8_compute 128 = .ok (.iconst 1, 1) := by decide +kernel
theorem dX8_compute_129 : decode cX8_compute 129 = .ok (.ireturn, 1) := by decide +kernel
theorem dX8_compute_130 : decode cX8_compute 130 = .ok (.aload_n 0, 1) := by decide +kernel
theorem dX8_compute_131 : decode cX8_compute 131 = .ok (.iload_n 3, 1) := by decide +kernel
theorem dX8_compute_132 : decode cX8_compute 132 = .ok (.iload 4, 2) := by decide +kernel
theorem dX8_compute_134 : decode cX8_compute 134 = .ok (.iand, 1) := by decide +kernel
theorem dX8_compute_135 : decode cX8_compute 135 = .ok (.putfield 99, 3) := by decide +kernel
theorem dX8_compute_138 : decode cX8_compute 138 = .ok (.iconst 1, 1) := by decide +kernel
theorem dX8_compute_139 : decode cX8_compute 139 = .ok (.ireturn, 1) := by decide +kernel
theorem dX8_compute_140 : decode cX8_compute 140 = .ok (.aload_n 0, 1) := by decide +kernel
theorem dX8_compute_141 : decode cX8_compute 141 = .ok (.iload_n 3, 1) := by decide +kernel
theorem dX8_compute_142 : decode cX8_compute 142 = .ok (.iload 4, 2) := by decide +kernel
theorem dX8_compute_144 : decode cX8_compute 144 = .ok (.if_icmp .ge 7, 3) := by decide +kernel
theorem dX8_compute_147 : decode cX8_compute 147 = .ok (.iconst 1, 1) := by decide +kernel
theorem dX8_compute_148 : decode cX8_compute 148 = .ok (.goto 4, 3) := by decide +kernel
theorem dX8_compute_151 : decode cX8_compute 151 = .ok (.iconst 0, 1) := by decide +kernel
theorem dX8_compute_152 : decode cX8_compute 152 = .ok (.invokestatic 149, 3) := by decide +kernel
theorem dX8_compute_155 : decode cX8_compute 155 = .ok (.putfield 99, 3) := by decide +kernel
theorem dX8_compute_158 : decode cX8_compute 158 = .ok (.iconst 1, 1) := by decide +kernel
theorem dX8_compute_159 : decode cX8_compute 159 = .ok (.ireturn, 1) := by decide +kernel
theorem dX8_compute_160 : decode cX8_compute 160 = .ok (.aload_n 0, 1) := by decide +kernel
theorem dX8_compute_161 : decode cX8_compute 161 = .ok (.aload_n 1, 1) := by decide +kernel
theorem dX8_compute_162 : decode cX8_compute 162 = .ok (.getfield 146, 3) := by decide +kernel
theorem dX8_compute_165 : decode cX8_compute 165 = .ok (.iload_n 2, 1) := by decide +kernel
theorem dX8_compute_166 : decode cX8_compute 166 = .ok (.iaload, 1) := by decide +kernel
theorem dX8_compute_167 : decode cX8_compute 167 = .ok (.iload_n 3, 1) := by decide +kernel
theorem dX8_compute_168 : decode cX8_compute 168 = .ok (.iload 4, 2) := by decide +kernel
theorem dX8_compute_170 : decode cX8_compute 170 = .ok (.invokevirtual 153, 3) := by decide +kernel
theorem dX8_compute_173 : decode cX8_compute 173 = .ok (.ireturn, 1) := by decide +kernel
theorem dX8_divide_0 : decode cX8_divide 0 = .ok (.iload_n 3, 1) := by decide +kernel
theorem dX8_divide_1 : decode cX8_divide 1 = .ok (.ifCond .ne 5, 3) := by decide +kernel
theorem dX8_divide_4 : decode cX8_divide 4 = .ok (.iconst 0, 1) := by decide +kernel
theorem dX8_divide_5 : decode cX8_divide 5 = .ok (.ireturn, 1) := by decide +kernel
theorem dX8_divide_6 : decode cX8_divide 6 = .ok (.aload_n 0, 1) := by decide +kernel
theorem dX8_divide_7 : decode cX8_divide 7 = .ok (.iload_n 1, 1) := by decide +kernel
theorem dX8_divide_8 : decode cX8_divide 8 = .ok (.bipush 47, 2) := by decide +kernel
theorem dX8_divide_10 : decode cX8_divide 10 = .ok (.if_icmp .ne 9, 3) := by decide +kernel
theorem dX8_divide_13 : decode cX8_divide 13 = .ok (.iload_n 2, 1) := by decide +kernel
theorem dX8_divide_14 : decode cX8_divide 14 = .ok (.iload_n 3, 1) := by decide +kernel
theorem dX8_divide_15 : decode cX8_divide 15 = .ok (.idiv, 1) := by decide +kernel
theorem dX8_divide_16 : decode cX8_divide 16 = .ok (.goto 6, 3) := by decide +kernel
theorem dX8_divide_19 : decode cX8_divide 19 = .ok (.iload_n 2, 1) := by decide +kernel
theorem dX8_divide_20 : decode cX8_divide 20 = .ok (.iload_n 3, 1) := by decide +kernel
theorem dX8_divide_21 : decode cX8_divide 21 = .ok (.irem, 1) := by decide +kernel
theorem dX8_divide_22 : decode cX8_divide 22 = .ok (.putfield 99, 3) := by decide +kernel
theorem dX8_divide_25 : decode cX8_divide 25 = .ok (.iconst 1, 1) := by decide +kernel
theorem dX8_divide_26 : decode cX8_divide 26 = .ok (.ireturn, 1) := by decide +kernel
theorem dX8_endsAndWroteLike_0 : decode cX8_endsAndWroteLike 0 = .ok (.aload_n 0, 1) := by decide +kernel
theorem dX8_endsAndWroteLike_1 : decode cX8_endsAndWroteLike 1 = .ok (.getfield 49, 3) := by decide +kernel
theorem dX8_endsAndWroteLike_4 : decode cX8_endsAndWroteLike 4 = .ok (.aload_n 1, 1) := by decide +kernel
theorem dX8_endsAndWroteLike_5 : decode cX8_endsAndWroteLike 5 = .ok (.getfield 49, 3) := by decide +kernel
theorem dX8_endsAndWroteLike_8 : decode cX8_endsAndWroteLike 8 = .ok (.if_icmp .ne 14, 3) := by decide +kernel
theorem dX8_endsAndWroteLike_11 : decode cX8_endsAndWroteLike 11 = .ok (.aload_n 0, 1) := by decide +kernel
theorem dX8_endsAndWroteLike_12 : decode cX8_endsAndWroteLike 12 = .ok (.getfield 43, 3) := by decide +kernel
theorem dX8_endsAndWroteLike_15 : decode cX8_endsAndWroteLike 15 = .ok (.aload_n 1, 1) := by decide +kernel
theorem dX8_endsAndWroteLike_16 : decode cX8_endsAndWroteLike 16 = .ok (.getfield 43, 3) := by decide +kernel
theorem dX8_endsAndWroteLike_19 : decode cX8_endsAndWroteLike 19 = .ok (.if_icmp .eq 5, 3) := by decide +kernel
theorem dX8_endsAndWroteLike_22 : decode cX8_endsAndWroteLike 22 = .ok (.iconst 0, 1) := by decide +kernel
theorem dX8_endsAndWroteLike_23 : decode cX8_endsAndWroteLike 23 = .ok (.ireturn, 1) := by decide +kernel
theorem dX8_endsAndWroteLike_24 : decode cX8_endsAndWroteLike 24 = .ok (.iconst 0, 1) := by decide +kernel
theorem dX8_endsAndWroteLike_25 : decode cX8_endsAndWroteLike 25 = .ok (.istore_n 2, 1) := by decide +kernel
theorem dX8_endsAndWroteLike_26 : decode cX8_endsAndWroteLike 26 = .ok (.iload_n 2, 1) := by decide +kernel
theorem dX8_endsAndWroteLike_27 : decode cX8_endsAndWroteLike 27 = .ok (.aload_n 0, 1) := by decide +kernel
theorem dX8_endsAndWroteLike_28 : decode cX8_endsAndWroteLike 28 = .ok (.getfield 43, 3) := by decide +kernel
theorem dX8_endsAndWroteLike_31 : decode cX8_endsAndWroteLike 31 = .ok (.if_icmp .ge 32, 3) := by decide +kernel
theorem dX8_endsAndWroteLike_34 : decode cX8_endsAndWroteLike 34 = .ok (.iload_n 2, 1) := by decide +kernel
theorem dX8_endsAndWroteLike_35 : decode cX8_endsAndWroteLike 35 = .ok (.bipush 40, 2) := by decide +kernel
theorem dX8_endsAndWroteLike_37 : decode cX8_endsAndWroteLike 37 = .ok (.if_icmp .ge 26, 3) := by decide +kernel
theorem dX8_endsAndWroteLike_40 : decode cX8_endsAndWroteLike 40 = .ok (.aload_n 0, 1) := by decide +kernel
theorem dX8_endsAndWroteLike_41 : decode cX8_endsAndWroteLike 41 = .ok (.getfield 15, 3) := by decide +kernel
theorem dX8_endsAndWroteLike_44 : decode cX8_endsAndWroteLike 44 = .ok (.iload_n 2, 1) := by decide +kernel
theorem dX8_endsAndWroteLike_45 : decode cX8_endsAndWroteLike 45 = .ok (.iaload, 1) := by decide +kernel
theorem dX8_endsAndWroteLike_46 : decode cX8_endsAndWroteLike 46 = .ok (.aload_n 1, 1) := by decide +kernel
theorem dX8_endsAndWroteLike_47 : decode cX8_endsAndWroteLike 47 = .ok (.getfield 15, 3) := by decide +kernel
theorem dX8_endsAndWroteLike_50 : decode cX8_endsAndWroteLike 50 = .ok (.iload_n 2, 1) := by decide +kernel
theorem dX8_endsAndWroteLike_51 : decode cX8_endsAndWroteLike 51 = .ok (.iaload, 1) := by decide +kernel
theorem dX8_endsAndWroteLike_52 : decode cX8_endsAndWroteLike 52 = .ok (.if_icmp .eq 5, 3) := by decide +kernel
theorem dX8_endsAndWroteLike_55 : decode cX8_endsAndWroteLike 55 = .ok (.iconst 0, 1) := by decide +kernel
theorem dX8_endsAndWroteLike_56 : decode cX8_endsAndWroteLike 56 = .ok (.ireturn, 1) := by decide +kernel
theorem dX8_endsAndWroteLike_57 : decode cX8_endsAndWroteLike 57 = .ok (.iinc 2 1, 3) := by decide +kernel
theorem dX8_endsAndWroteLike_60 : decode cX8_endsAndWroteLike 60 = .ok (.goto (-34), 3) := by decide +kernel
theorem dX8_endsAndWroteLike_63 : decode cX8_endsAndWroteLike 63 = .ok (.iconst 1, 1) := by decide +kernel
theorem dX8_endsAndWroteLike_64 : decode cX8_endsAndWroteLike 64 = .ok (.ireturn, 1) := by decide +kernel
theorem dX9_init_0 : decode cX9_init 0 = .ok (.aload_n 0, 1) := by decide +kernel
theorem dX9_init_1 : decode cX9_init 1 = .ok (.invokespecial 3, 3) := by decide +kernel
theorem dX9_init_4 : decode cX9_init 4 = .ok (.aload_n 0, 1) := by decide +kernel
theorem dX9_init_5 : decode cX9_init 5 = .ok (.sipush 800, 3) := by decide +kernel
theorem dX9_init_8 : decode cX9_init 8 = .ok (.newarray .byte, 2) := by decide +kernel
theorem dX9_init_10 : decode cX9_init 10 = .ok (.putfield 9, 3) := by decide +kernel
theorem dX9_init_13 : decode cX9_init 13 = .ok (.return_, 1) := by decide +kernel
theorem dX9_size_0 : decode cX9_size 0 = .ok (.aload_n 0, 1) := by decide +kernel
theorem dX9_size_1 : decode cX9_size 1 = .ok (.getfield 15, 3) := by decide +kernel
theorem dX9_size_4 : decode cX9_size 4 = .ok (.ireturn, 1) := by decide +kernel
theorem dX9_at_0 : decode cX9_at 0 = .ok (.iload_n 1, 1) := by decide +kernel
theorem dX9_at_1 : decode cX9_at 1 = .ok (.ifCond .lt 31, 3) := by decide +kernel
theorem dX9_at_4 : decode cX9_at 4 = .ok (.iload_n 1, 1) := by decide +kernel
theorem dX9_at_5 : decode cX9_at 5 = .ok (.aload_n 0, 1) := by decide +kernel
theorem dX9_at_6 : decode cX9_at 6 = .ok (.getfield 15, 3) := by decide +kernel
theorem dX9_at_9 : decode cX9_at 9 = .ok (.if_icmp .ge 23, 3) := by decide +kernel
theorem dX9_at_12 : decode cX9_at 12 = .ok (.iload_n 1, 1) := by decide +kernel
theorem dX9_at_13 : decode cX9_at 13 = .ok (.sipush 800, 3) := by decide +kernel
theorem dX9_at_16 : decode cX9_at 16 = .ok (.if_icmp .ge 16, 3) := by decide +kernel
theorem dX9_at_19 : decode cX9_at 19 = .ok (.aload_n 0, 1) := by decide +kernel
theorem dX9_at_20 : decode cX9_at 20 = .ok (.getfield 9, 3) := by decide +kernel
theorem dX9_at_23 : decode cX9_at 23 = .ok (.iload_n 1, 1) := by decide +kernel
theorem dX9_at_24 : decode cX9_at 24 = .ok (.baload, 1) := by decide +kernel
theorem dX9_at_25 : decode cX9_at 25 = .ok (.sipush 255, 3) := by decide +kernel
theorem dX9_at_28 : decode cX9_at 28 = .ok (.iand, 1) := by decide +kernel
theorem dX9_at_29 : decode cX9_at 29 = .ok (.goto 4, 3) := by decide +kernel
theorem dX9_at_32 : decode cX9_at 32 = .ok (.iconst (-1), 1) := by decide +kernel
theorem dX9_at_33 : decode cX9_at 33 = .ok (.ireturn, 1) := by decide +kernel
theorem dX9_cut_0 : decode cX9_cut 0 = .ok (.iload_n 1, 1) := by decide +kernel
theorem dX9_cut_1 : decode cX9_cut 1 = .ok (.ifCond .lt 16, 3) := by decide +kernel
theorem dX9_cut_4 : decode cX9_cut 4 = .ok (.iload_n 1, 1) := by decide +kernel
theorem dX9_cut_5 : decode cX9_cut 5 = .ok (.aload_n 0, 1) := by decide +kernel
theorem dX9_cut_6 : decode cX9_cut 6 = .ok (.getfield 15, 3) := by decide +kernel
theorem dX9_cut_9 : decode cX9_cut 9 = .ok (.if_icmp .gt 8, 3) := by decide +kernel
theorem dX9_cut_12 : decode cX9_cut 12 = .ok (.aload_n 0, 1) := by decide +kernel
theorem dX9_cut_13 : decode cX9_cut 13 = .ok (.iload_n 1, 1) := by decide +kernel
theorem dX9_cut_14 : decode cX9_cut 14 = .ok (.putfield 15, 3) := by decide +kernel
theorem dX9_cut_17 : decode cX9_cut 17 = .ok (.return_, 1) := by decide +kernel
theorem dX9_put_0 : decode cX9_put 0 = .ok (.aload_n 0, 1) := by decide +kernel
theorem dX9_put_1 : decode cX9_put 1 = .ok (.getfield 15, 3) := by decide +kernel
theorem dX9_put_4 : decode cX9_put 4 = .ok (.ifCond .lt 34, 3) := by decide +kernel
theorem dX9_put_7 : decode cX9_put 7 = .ok (.aload_n 0, 1) := by decide +kernel
theorem dX9_put_8 : decode cX9_put 8 = .ok (.getfield 15, 3) := by decide +kernel
theorem dX9_put_11 : decode cX9_put 11 = .ok (.sipush 800, 3) := by decide +kernel
theorem dX9_put_14 : decode cX9_put 14 = .ok (.if_icmp .ge 24, 3) := by decide +kernel
theorem dX9_put_17 : decode cX9_put 17 = .ok (.aload_n 0, 1) := by decide +kernel
theorem dX9_put_18 : decode cX9_put 18 = .ok (.getfield 9, 3) := by decide +kernel
theorem dX9_put_21 : decode cX9_put 21 = .ok (.aload_n 0, 1) := by decide +kernel
theorem dX9_put_22 : decode cX9_put 22 = .ok (.getfield 15, 3) := by decide +kernel
theorem dX9_put_25 : decode cX9_put 25 = .ok (.iload_n 1, 1) := by decide +kernel
theorem dX9_put_26 : decode cX9_put 26 = .ok (.i2b, 1) := by decide +kernel
theorem dX9_put_27 : decode cX9_put 27 = .ok (.bastore, 1) := by decide +kernel
theorem dX9_put_28 : decode cX9_put 28 = .ok (.aload_n 0, 1) := by decide +kernel
theorem dX9_put_29 : decode cX9_put 29 = .ok (.dup, 1) := by decide +kernel
theorem dX9_put_30 : decode cX9_put 30 = .ok (.getfield 15, 3) := by decide +kernel
theorem dX9_put_33 : decode cX9_put 33 = .ok (.iconst 1, 1) := by decide +kernel
theorem dX9_put_34 : decode cX9_put 34 = .ok (.iadd, 1) := by decide +kernel
theorem dX9_put_35 : decode cX9_put 35 = .ok (.putfield 15, 3) := by decide +kernel
theorem dX9_put_38 : decode cX9_put 38 = .ok (.return_, 1) := by decide +kernel
theorem dX9_putFour_0 : decode cX9_putFour 0 = .ok (.aload_n 0, 1) := by decide +kernel
theorem dX9_putFour_1 : decode cX9_putFour 1 = .ok (.iload_n 1, 1) := by decide +kernel
theorem dX9_putFour_2 : decode cX9_putFour 2 = .ok (.bipush 24, 2) := by decide +kernel
theorem dX9_putFour_4 : decode cX9_putFour 4 = .ok (.iushr, 1) := by decide +kernel
theorem dX9_putFour_5 : decode cX9_putFour 5 = .ok (.invokevirtual 19, 3) := by decide +kernel
theorem dX9_putFour_8 : decode cX9_putFour 8 = .ok (.aload_n 0, 1) := by decide +kernel
theorem dX9_putFour_9 : decode cX9_putFour 9 = .ok (.iload_n 1, 1) := by decide +kernel
theorem dX9_putFour_10 : decode cX9_putFour 10 = .ok (.bipush 16, 2) := by decide +kernel
theorem dX9_putFour_12 : decode cX9_putFour 12 = .ok (.iushr, 1) := by decide +kernel
theorem dX9_putFour_13 : decode cX9_putFour 13 = .ok (.invokevirtual 19, 3) := by decide +kernel
theorem dX9_putFour_16 : decode cX9_putFour 16 = .ok (.aload_n 0, 1) := by decide +kernel
theorem dX9_putFour_17 : decode cX9_putFour 17 = .ok (.iload_n 1, 1) := by decide +kernel
theorem dX9_putFour_18 : decode cX9_putFour 18 = .ok (.bipush 8, 2) := by decide +kernel
theorem dX9_putFour_20 : decode cX9_putFour 20 = .ok (.iushr, 1) := by decide +kernel
theorem dX9_putFour_21 : decode cX9_putFour 21 = .ok (.invokevirtual 19, 3) := by decide +kernel
theorem dX9_putFour_24 : decode cX9_putFour 24 = .ok (.aload_n 0, 1) := by decide +kernel
theorem dX9_putFour_25 : decode cX9_putFour 25 = .ok (.iload_n 1, 1) := by decide +kernel
theorem dX9_putFour_26 : decode cX9_putFour 26 = .ok (.invokevirtual 19, 3) := by decide +kernel
theorem dX9_putFour_29 : decode cX9_putFour 29 = .ok (.return_, 1) := by decide +kernel
theorem dX9_putNumber_0 : decode cX9_putNumber 0 = .ok (.iload_n 1, 1) := by decide +kernel
theorem dX9_putNumber_1 : decode cX9_putNumber 1 = .ok (.bipush 100, 2) := by decide +kernel
theorem dX9_putNumber_3 : decode cX9_putNumber 3 = .ok (.if_icmp .lt 17, 3) := by decide +kernel
theorem dX9_putNumber_6 : decode cX9_putNumber 6 = .ok (.aload_n 0, 1) := by decide +kernel
theorem dX9_putNumber_7 : decode cX9_putNumber 7 = .ok (.bipush 48, 2) := by decide +kernel
theorem dX9_putNumber_9 : decode cX9_putNumber 9 = .ok (.iload_n 1, 1) := by decide +kernel
theorem dX9_putNumber_10 : decode cX9_putNumber 10 = .ok (.bipush 100, 2) := by decide +kernel
theorem dX9_putNumber_12 : decode cX9_putNumber 12 = .ok (.idiv, 1) := by decide +kernel
theorem dX9_putNumber_13 : decode cX9_putNumber 13 = .ok (.bipush 10, 2) := by decide +kernel
theorem dX9_putNumber_15 : decode cX9_putNumber 15 = .ok (.irem, 1) := by decide +kernel
theorem dX9_putNumber_16 : decode cX9_putNumber 16 = .ok (.iadd, 1) := by decide +kernel
theorem dX9_putNumber_17 : decode cX9_putNumber 17 = .ok (.invokevirtual 19, 3) := by decide +kernel
theorem dX9_putNumber_20 : decode cX9_putNumber 20 = .ok (.iload_n 1, 1) := by decide +kernel
theorem dX9_putNumber_21 : decode cX9_putNumber 21 = .ok (.bipush 10, 2) := by decide +kernel
theorem dX9_putNumber_23 : decode cX9_putNumber 23 = .ok (.if_icmp .lt 17, 3) := by decide +kernel
theorem dX9_putNumber_26 : decode cX9_putNumber 26 = .ok (.aload_n 0, 1) := by decide +kernel
theorem dX9_putNumber_27 : decode cX9_putNumber 27 = .ok (.bipush 48, 2) := by decide +kernel
theorem dX9_putNumber_29 : decode cX9_putNumber 29 = .ok (.iload_n 1, 1) := by decide +kernel
theorem dX9_putNumber_30 : decode cX9_putNumber 30 = .ok (.bipush 10, 2) := by decide +kernel
theorem dX9_putNumber_32 : decode cX9_putNumber 32 = .ok (.idiv, 1) := by decide +kernel
theorem dX9_putNumber_33 : decode cX9_putNumber 33 = .ok (.bipush 10, 2) := by decide +kernel
theorem dX9_putNumber_35 : decode cX9_putNumber 35 = .ok (.irem, 1) := by decide +kernel
theorem dX9_putNumber_36 : decode cX9_putNumber 36 = .ok (.iadd, 1) := by decide +kernel
theorem dX9_putNumber_37 : decode cX9_putNumber 37 = .ok (.invokevirtual 19, 3) := by decide +kernel
theorem dX9_putNumber_40 : decode cX9_putNumber 40 = .ok (.aload_n 0, 1) := by decide +kernel
theorem dX9_putNumber_41 : decode cX9_putNumber 41 = .ok (.bipush 48, 2) := by decide +kernel
theorem dX9_putNumber_43 : decode cX9_putNumber 43 = .ok (.iload_n 1, 1) := by decide +kernel
theorem dX9_putNumber_44 : decode cX9_putNumber 44 = .ok (.bipush 10, 2) := by decide +kernel
theorem dX9_putNumber_46 : decode cX9_putNumber 46 = .ok (.irem, 1) := by decide +kernel
theorem dX9_putNumber_47 : decode cX9_putNumber 47 = .ok (.iadd, 1) := by decide +kernel
theorem dX9_putNumber_48 : decode cX9_putNumber 48 = .ok (.invokevirtual 19, 3) := by decide +kernel
theorem dX9_putNumber_51 : decode cX9_putNumber 51 = .ok (.return_, 1) := by decide +kernel
theorem dX9_copyFrom_0 : decode cX9_copyFrom 0 = .ok (.aload_n 1, 1) := by decide +kernel
theorem dX9_copyFrom_1 : decode cX9_copyFrom 1 = .ok (.getfield 9, 3) := by decide +kernel
theorem dX9_copyFrom_4 : decode cX9_copyFrom 4 = .ok (.iconst 0, 1) := by decide +kernel
theorem dX9_copyFrom_5 : decode cX9_copyFrom 5 = .ok (.aload_n 0, 1) := by decide +kernel
theorem dX9_copyFrom_6 : decode cX9_copyFrom 6 = .ok (.getfield 9, 3) := by decide +kernel
theorem dX9_copyFrom_9 : decode cX9_copyFrom 9 = .ok (.iconst 0, 1) := by decide +kernel
theorem dX9_copyFrom_10 : decode cX9_copyFrom 10 = .ok (.sipush 800, 3) := by decide +kernel
theorem dX9_copyFrom_13 : decode cX9_copyFrom 13 = .ok (.invokestatic 23, 3) := by decide +kernel
theorem dX9_copyFrom_16 : decode cX9_copyFrom 16 = .ok (.aload_n 0, 1) := by decide +kernel
theorem dX9_copyFrom_17 : decode cX9_copyFrom 17 = .ok (.aload_n 1, 1) := by decide +kernel
theorem dX9_copyFrom_18 : decode cX9_copyFrom 18 = .ok (.getfield 15, 3) := by decide +kernel
theorem dX9_copyFrom_21 : decode cX9_copyFrom 21 = .ok (.putfield 15, 3) := by decide +kernel
theorem dX9_copyFrom_24 : decode cX9_copyFrom 24 = .ok (.return_, 1) := by decide +kernel
theorem dX10_init_0 : decode cX10_init 0 = .ok (.aload_n 0, 1) := by decide +kernel
theorem dX10_init_1 : decode cX10_init 1 = .ok (.invokespecial 3, 3) := by decide +kernel
theorem dX10_init_4 : decode cX10_init 4 = .ok (.aload_n 0, 1) := by decide +kernel
theorem dX10_init_5 : decode cX10_init 5 = .ok (.sipush 128, 3) := by decide +kernel
theorem dX10_init_8 : decode cX10_init 8 = .ok (.newarray .int, 2) := by decide +kernel
theorem dX10_init_10 : decode cX10_init 10 = .ok (.putfield 9, 3) := by decide +kernel
theorem dX10_init_13 : decode cX10_init 13 = .ok (.aload_n 0, 1) := by decide +kernel
theorem dX10_init_14 : decode cX10_init 14 = .ok (.sipush 128, 3) := by decide +kernel
theorem dX10_init_17 : decode cX10_init 17 = .ok (.newarray .long, 2) := by decide +kernel
theorem dX10_init_19 : decode cX10_init 19 = .ok (.putfield 15, 3) := by decide +kernel
theorem dX10_init_22 : decode cX10_init 22 = .ok (.aload_n 0, 1) := by decide +kernel
theorem dX10_init_23 : decode cX10_init 23 = .ok (.sipush 128, 3) := by decide +kernel
theorem dX10_init_26 : decode cX10_init 26 = .ok (.newarray .int, 2) := by decide +kernel
theorem dX10_init_28 : decode cX10_init 28 = .ok (.putfield 19, 3) := by decide +kernel
theorem dX10_init_31 : decode cX10_init 31 = .ok (.aload_n 0, 1) := by decide +kernel
theorem dX10_init_32 : decode cX10_init 32 = .ok (.sipush 128, 3) := by decide +kernel
theorem dX10_init_35 : decode cX10_init 35 = .ok (.newarray .int, 2) := by decide +kernel
theorem dX10_init_37 : decode cX10_init 37 = .ok (.putfield 22, 3) := by decide +kernel
theorem dX10_init_40 : decode cX10_init 40 = .ok (.aload_n 0, 1) := by decide +kernel
theorem dX10_init_41 : decode cX10_init 41 = .ok (.sipush 128, 3) := by decide +kernel
theorem dX10_init_44 : decode cX10_init 44 = .ok (.newarray .long, 2) := by decide +kernel
theorem dX10_init_46 : decode cX10_init 46 = .ok (.putfield 25, 3) := by decide +kernel
theorem dX10_init_49 : decode cX10_init 49 = .ok (.aload_n 0, 1) := by decide +kernel
theorem dX10_init_50 : decode cX10_init 50 = .ok (.sipush 128, 3) := by decide +kernel
theorem dX10_init_53 : decode cX10_init 53 = .ok (.newarray .int, 2) := by decide +kernel
theorem dX10_init_55 : decode cX10_init 55 = .ok (.putfield 28, 3) := by decide +kernel
theorem dX10_init_58 : decode cX10_init 58 = .ok (.aload_n 0, 1) := by decide +kernel
theorem dX10_init_59 : decode cX10_init 59 = .ok (.sipush 128, 3) := by decide +kernel
theorem dX10_init_62 : decode cX10_init 62 = .ok (.newarray .int, 2) := by decide +kernel
theorem dX10_init_64 : decode cX10_init 64 = .ok (.putfield 31, 3) := by decide +kernel
theorem dX10_init_67 : decode cX10_init 67 = .ok (.return_, 1) := by decide +kernel
theorem dX10_count_0 : decode cX10_count 0 = .ok (.iconst 0, 1) := by decide +kernel
theorem dX10_count_1 : decode cX10_count 1 = .ok (.istore 4, 2) := by decide +kernel
theorem dX10_count_3 : decode cX10_count 3 = .ok (.iload 4, 2) := by decide +kernel
theorem dX10_count_5 : decode cX10_count 5 = .ok (.aload_n 1, 1) := by decide +kernel
theorem dX10_count_6 : decode cX10_count 6 = .ok (.getfield 34, 3) := by decide +kernel
theorem dX10_count_9 : decode cX10_count 9 = .ok (.if_icmp .ge 31, 3) := by decide +kernel
theorem dX10_count_12 : decode cX10_count 12 = .ok (.aload_n 0, 1) := by decide +kernel
theorem dX10_count_13 : decode cX10_count 13 = .ok (.getfield 9, 3) := by decide +kernel
theorem dX10_count_16 : decode cX10_count 16 = .ok (.iload 4, 2) := by decide +kernel
theorem dX10_count_18 : decode cX10_count 18 = .ok (.aload_n 2, 1) := by decide +kernel
theorem dX10_count_19 : decode cX10_count 19 = .ok (.aload_n 1, 1) := by decide +kernel
theorem dX10_count_20 : decode cX10_count 20 = .ok (.iload 4, 2) := by decide +kernel
theorem dX10_count_22 : decode cX10_count 22 = .ok (.invokevirtual 40, 3) := by decide +kernel
theorem dX10_count_25 : decode cX10_count 25 = .ok (.iastore, 1) := by decide +kernel
theorem dX10_count_26 : decode cX10_count 26 = .ok (.aload_n 0, 1) := by decide +kernel
theorem dX10_count_27 : decode cX10_count 27 = .ok (.getfield 15, 3) := by decide +kernel
theorem dX10_count_30 : decode cX10_count 30 = .ok (.iload 4, 2) := by decide +kernel
theorem dX10_count_32 : decode cX10_count 32 = .ok (.lconst 0, 1) := by decide +kernel
theorem dX10_count_33 : decode cX10_count 33 = .ok (.lastore, 1) := by decide +kernel
theorem dX10_count_34 : decode cX10_count 34 = .ok (.iinc 4 1, 3) := by decide +kernel
theorem dX10_count_37 : decode cX10_count 37 = .ok (.goto (-34), 3) := by decide +kernel
theorem dX10_count_40 : decode cX10_count 40 = .ok (.aload_n 0, 1) := by decide +kernel
theorem dX10_count_41 : decode cX10_count 41 = .ok (.lconst 0, 1) := by decide +kernel
theorem dX10_count_42 : decode cX10_count 42 = .ok (.putfield 46, 3) := by decide +kernel
theorem dX10_count_45 : decode cX10_count 45 = .ok (.aload_n 0, 1) := by decide +kernel
theorem dX10_count_46 : decode cX10_count 46 = .ok (.iconst 0, 1) := by decide +kernel
theorem dX10_count_47 : decode cX10_count 47 = .ok (.putfield 50, 3) := by decide +kernel
theorem dX10_count_50 : decode cX10_count 50 = .ok (.aload_n 0, 1) := by decide +kernel
theorem dX10_count_51 : decode cX10_count 51 = .ok (.iconst 0, 1) := by decide +kernel
theorem dX10_count_52 : decode cX10_count 52 = .ok (.putfield 53, 3) := by decide +kernel
theorem dX10_count_55 : decode cX10_count 55 = .ok (.aload_n 0, 1) := by decide +kernel
theorem dX10_count_56 : decode cX10_count 56 = .ok (.getfield 15, 3) := by decide +kernel
theorem dX10_count_59 : decode cX10_count 59 = .ok (.iconst 0, 1) := by decide +kernel
theorem dX10_count_60 : decode cX10_count 60 = .ok (.lconst 1, 1) := by decide +kernel
theorem dX10_count_61 : decode cX10_count 61 = .ok (.lastore, 1) := by decide +kernel
theorem dX10_count_62 : decode cX10_count 62 = .ok (.aload_n 0, 1) := by decide +kernel
theorem dX10_count_63 : decode cX10_count 63 = .ok (.getfield 19, 3) := by decide +kernel
theorem dX10_count_66 : decode cX10_count 66 = .ok (.iconst 0, 1) := by decide +kernel
theorem dX10_count_67 : decode cX10_count 67 = .ok (.aload_n 0, 1) := by decide +kernel
theorem dX10_count_68 : decode cX10_count 68 = .ok (.getfield 9, 3) := by decide +kernel
theorem dX10_count_71 : decode cX10_count 71 = .ok (.iconst 0, 1) := by decide +kernel
theorem dX10_count_72 : decode cX10_count 72 = .ok (.iaload, 1) := by decide +kernel
theorem dX10_count_73 : decode cX10_count 73 = .ok (.iastore, 1) := by decide +kernel
theorem dX10_count_74 : decode cX10_count 74 = .ok (.aload_n 0, 1) := by decide +kernel
theorem dX10_count_75 : decode cX10_count 75 = .ok (.getfield 22, 3) := by decide +kernel
theorem dX10_count_78 : decode cX10_count 78 = .ok (.iconst 0, 1) := by decide +kernel
theorem dX10_count_79 : decode cX10_count 79 = .ok (.aload_n 0, 1) := by decide +kernel
theorem dX10_count_80 : decode cX10_count 80 = .ok (.getfield 9, 3) := by decide +kernel
theorem dX10_count_83 : decode cX10_count 83 = .ok (.iconst 0, 1) := by decide +kernel
theorem dX10_count_84 : decode cX10_count 84 = .ok (.iaload, 1) := by decide +kernel
theorem dX10_count_85 : decode cX10_count 85 = .ok (.iastore, 1) := by decide +kernel
theorem dX10_count_86 : decode cX10_count 86 = .ok (.iconst 1, 1) := by decide +kernel
theorem dX10_count_87 : decode cX10_count 87 = .ok (.istore 4, 2) := by decide +kernel
theorem dX10_count_89 : decode cX10_count 89 = .ok (.iload 4, 2) := by decide +kernel
theorem dX10_count_91 : decode cX10_count 91 = .ok (.iload_n 3, 1) := by decide +kernel
theorem dX10_count_92 : decode cX10_count 92 = .ok (.if_icmp .gt 19, 3) := by decide +kernel
theorem dX10_count_95 : decode cX10_count 95 = .ok (.aload_n 0, 1) := by decide +kernel
theorem dX10_count_96 : decode cX10_count 96 = .ok (.aload_n 1, 1) := by decide +kernel
theorem dX10_count_97 : decode cX10_count 97 = .ok (.invokevirtual 56, 3) := by decide +kernel
theorem dX10_count_100 : decode cX10_count 100 = .ok (.aload_n 0, 1) := by decide +kernel
theorem dX10_count_101 : decode cX10_count 101 = .ok (.aload_n 1, 1) := by decide +kernel
theorem dX10_count_102 : decode cX10_count 102 = .ok (.invokevirtual 60, 3) := by decide +kernel
theorem dX10_count_105 : decode cX10_count 105 = .ok (.iinc 4 1, 3) := by decide +kernel
theorem dX10_count_108 : decode cX10_count 108 = .ok (.goto (-19), 3) := by decide +kernel
theorem dX10_count_111 : decode cX10_count 111 = .ok (.return_, 1) := by decide +kernel
theorem dX10_endWaysAtLast_0 : decode cX10_endWaysAtLast 0 = .ok (.iconst 0, 1) := by decide +kernel
theorem dX10_endWaysAtLast_1 : decode cX10_endWaysAtLast 1 = .ok (.istore_n 2, 1) := by decide +kernel
theorem dX10_endWaysAtLast_2 : decode cX10_endWaysAtLast 2 = .ok (.iload_n 2, 1) := by decide +kernel
theorem dX10_endWaysAtLast_3 : decode cX10_endWaysAtLast 3 = .ok (.aload_n 1, 1) := by decide +kernel
theorem dX10_endWaysAtLast_4 : decode cX10_endWaysAtLast 4 = .ok (.getfield 34, 3) := by decide +kernel
theorem dX10_endWaysAtLast_7 : decode cX10_endWaysAtLast 7 = .ok (.if_icmp .ge 119, 3) := by decide +kernel
theorem dX10_endWaysAtLast_10 : decode cX10_endWaysAtLast 10 = .ok (.aload_n 0, 1) := by decide +kernel
theorem dX10_endWaysAtLast_11 : decode cX10_endWaysAtLast 11 = .ok (.getfield 15, 3) := by decide +kernel
theorem dX10_endWaysAtLast_14 : decode cX10_endWaysAtLast 14 = .ok (.iload_n 2, 1) := by decide +kernel
theorem dX10_endWaysAtLast_15 : decode cX10_endWaysAtLast 15 = .ok (.laload, 1) := by decide +kernel
theorem dX10_endWaysAtLast_16 : decode cX10_endWaysAtLast 16 = .ok (.lconst 0, 1) := by decide +kernel
theorem dX10_endWaysAtLast_17 : decode cX10_endWaysAtLast 17 = .ok (.lcmp, 1) := by decide +kernel
theorem dX10_endWaysAtLast_18 : decode cX10_endWaysAtLast 18 = .ok (.ifCond .le 102, 3) := by decide +kernel
theorem dX10_endWaysAtLast_21 : decode cX10_endWaysAtLast 21 = .ok (.aload_n 1, 1) := by decide +kernel
theorem dX10_endWaysAtLast_22 : decode cX10_endWaysAtLast 22 = .ok (.iload_n 2, 1) := by decide +kernel
theorem dX10_endWaysAtLast_23 : decode cX10_endWaysAtLast 23 = .ok (.invokevirtual 63, 3) := by decide +kernel
theorem dX10_endWaysAtLast_26 : decode cX10_endWaysAtLast 26 = .ok (.ifCond .ne 94, 3) := by decide +kernel
theorem dX10_endWaysAtLast_29 : decode cX10_endWaysAtLast 29 = .ok (.aload_n 0, 1) := by decide +kernel
theorem dX10_endWaysAtLast_30 : decode cX10_endWaysAtLast 30 = .ok (.aload_n 0, 1) := by decide +kernel
theorem dX10_endWaysAtLast_31 : decode cX10_endWaysAtLast 31 = .ok (.getfield 46, 3) := by decide +kernel
theorem dX10_endWaysAtLast_34 : decode cX10_endWaysAtLast 34 = .ok (.lconst 0, 1) := by decide +kernel
theorem dX10_endWaysAtLast_35 : decode cX10_endWaysAtLast 35 = .ok (.lcmp, 1) := by decide +kernel
theorem dX10_endWaysAtLast_36 : decode cX10_endWaysAtLast 36 = .ok (.ifCond .ne 12, 3) := by decide +kernel
theorem dX10_endWaysAtLast_39 : decode cX10_endWaysAtLast 39 = .ok (.aload_n 0, 1) := by decide +kernel
theorem dX10_endWaysAtLast_40 : decode cX10_endWaysAtLast 40 = .ok (.getfield 19, 3) := by decide +kernel
theorem dX10_endWaysAtLast_43 : decode cX10_endWaysAtLast 43 = .ok (.iload_n 2, 1) := by decide +kernel
theorem dX10_endWaysAtLast_44 : decode cX10_endWaysAtLast 44 = .ok (.iaload, 1) := by decide +kernel
theorem dX10_endWaysAtLast_45 : decode cX10_endWaysAtLast 45 = .ok (.goto 16, 3) := by decide +kernel
theorem dX10_endWaysAtLast_48 : decode cX10_endWaysAtLast 48 = .ok (.aload_n 0, 1) := by decide +kernel
theorem dX10_endWaysAtLast_49 : decode cX10_endWaysAtLast 49 = .ok (.getfield 50, 3) := by decide +kernel
theorem dX10_endWaysAtLast_52 : decode cX10_endWaysAtLast 52 = .ok (.aload_n 0, 1) := by decide +kernel
theorem dX10_endWaysAtLast_53 : decode cX10_endWaysAtLast 53 = .ok (.getfield 19, 3) := by decide +kernel
theorem dX10_endWaysAtLast_56 : decode cX10_endWaysAtLast 56 = .ok (.iload_n 2, 1) := by decide +kernel
theorem dX10_endWaysAtLast_57 : decode cX10_endWaysAtLast 57 = .ok (.iaload, 1) := by decide +kernel
theorem dX10_endWaysAtLast_58 : decode cX10_endWaysAtLast 58 = .ok (.invokestatic 67, 3) := by decide +kernel
theorem dX10_endWaysAtLast_61 : decode cX10_endWaysAtLast 61 = .ok (.putfield 50, 3) := by decide +kernel
theorem dX10_endWaysAtLast_64 : decode cX10_endWaysAtLast 64 = .ok (.aload_n 0, 1) := by decide +kernel
theorem dX10_endWaysAtLast_65 : decode cX10_endWaysAtLast 65 = .ok (.aload_n 0, 1) := by decide +kernel
theorem dX10_endWaysAtLast_66 : decode cX10_endWaysAtLast 66 = .ok (.getfield 46, 3) := by decide +kernel
theorem dX10_endWaysAtLast_69 : decode cX10_endWaysAtLast 69 = .ok (.lconst 0, 1) := by decide +kernel
theorem dX10_endWaysAtLast_70 : decode cX10_endWaysAtLast 70 = .ok (.lcmp, 1) := by decide +kernel
theorem dX10_endWaysAtLast_71 : decode cX10_endWaysAtLast 71 = .ok (.ifCond .ne 12, 3) := by decide +kernel
theorem dX10_endWaysAtLast_74 : decode cX10_endWaysAtLast 74 = .ok (.aload_n 0, 1) := by decide +kernel
theorem dX10_endWaysAtLast_75 : decode cX10_endWaysAtLast 75 = .ok (.getfield 22, 3) := by decide +kernel
theorem dX10_endWaysAtLast_78 : decode cX10_endWaysAtLast 78 = .ok (.iload_n 2, 1) := by decide +kernel
theorem dX10_endWaysAtLast_79 : decode cX10_endWaysAtLast 79 = .ok (.iaload, 1) := by decide +kernel
theorem dX10_endWaysAtLast_80 : decode cX10_endWaysAtLast 80 = .ok (.goto 16, 3) := by decide +kernel
theorem dX10_endWaysAtLast_83 : decode cX10_endWaysAtLast 83 = .ok (.aload_n 0, 1) := by decide +kernel
theorem dX10_endWaysAtLast_84 : decode cX10_endWaysAtLast 84 = .ok (.getfield 53, 3) := by decide +kernel
theorem dX10_endWaysAtLast_87 : decode cX10_endWaysAtLast 87 = .ok (.aload_n 0, 1) := by decide +kernel
theorem dX10_endWaysAtLast_88 : decode cX10_endWaysAtLast 88 = .ok (.getfield 22, 3) := by decide +kernel
theorem dX10_endWaysAtLast_91 : decode cX10_endWaysAtLast 91 = .ok (.iload_n 2, 1) := by decide +kernel
theorem dX10_endWaysAtLast_92 : decode cX10_endWaysAtLast 92 = .ok (.iaload, 1) := by decide +kernel
theorem dX10_endWaysAtLast_93 : decode cX10_endWaysAtLast 93 = .ok (.invokestatic 73, 3) := by decide +kernel
theorem dX10_endWaysAtLast_96 : decode cX10_endWaysAtLast 96 = .ok (.putfield 53, 3) := by decide +kernel
theorem dX10_endWaysAtLast_99 : decode cX10_endWaysAtLast 99 = .ok (.aload_n 0, 1) := by decide +kernel
theorem dX10_endWaysAtLast_100 : decode cX10_endWaysAtLast 100 = .ok (.ldc2_w 76, 3) := by decide +kernel
theorem dX10_endWaysAtLast_103 : decode cX10_endWaysAtLast 103 = .ok (.aload_n 0, 1) := by decide +kernel
theorem dX10_endWaysAtLast_104 : decode cX10_endWaysAtLast 104 = .ok (.getfield 46, 3) := by decide +kernel
theorem dX10_endWaysAtLast_107 : decode cX10_endWaysAtLast 107 = .ok (.aload_n 0, 1) := by decide +kernel
theorem dX10_endWaysAtLast_108 : decode cX10_endWaysAtLast 108 = .ok (.getfield 15, 3) := by decide +kernel
theorem dX10_endWaysAtLast_111 : decode cX10_endWaysAtLast 111 = .ok (.iload_n 2, 1) := by decide +kernel
theorem dX10_endWaysAtLast_112 : decode cX10_endWaysAtLast 112 = .ok (.laload, 1) := by decide +kernel
theorem dX10_endWaysAtLast_113 : decode cX10_endWaysAtLast 113 = .ok (.ladd, 1) := by decide +kernel
theorem dX10_endWaysAtLast_114 : decode cX10_endWaysAtLast 114 = .ok (.invokestatic 78, 3) := by decide +kernel
theorem dX10_endWaysAtLast_117 : decode cX10_endWaysAtLast 117 = .ok (.putfield 46, 3) := by decide +kernel
theorem dX10_endWaysAtLast_120 : decode cX10_endWaysAtLast 120 = .ok (.iinc 2 1, 3) := by decide +kernel
theorem dX10_endWaysAtLast_123 : decode cX10_endWaysAtLast 123 = .ok (.goto (-121), 3) := by decide +kernel
theorem dX10_endWaysAtLast_126 : decode cX10_endWaysAtLast 126 = .ok (.return_, 1) := by decide +kernel
theorem dX10_goOnByOneEdge_0 : decode cX10_goOnByOneEdge 0 = .ok (.iconst 0, 1) := by decide +kernel
theorem dX10_goOnByOneEdge_1 : decode cX10_goOnByOneEdge 1 = .ok (.istore_n 2, 1) := by decide +kernel
theorem dX10_goOnByOneEdge_2 : decode cX10_goOnByOneEdge 2 = .ok (.iload_n 2, 1) := by decide +kernel
theorem dX10_goOnByOneEdge_3 : decode cX10_goOnByOneEdge 3 = .ok (.aload_n 1, 1) := by decide +kernel
theorem dX10_goOnByOneEdge_4 : decode cX10_goOnByOneEdge 4 = .ok (.getfield 34, 3) := by decide +kernel
theorem dX10_goOnByOneEdge_7 : decode cX10_goOnByOneEdge 7 = .ok (.if_icmp .ge 16, 3) := by decide +kernel
theorem dX10_goOnByOneEdge_10 : decode cX10_goOnByOneEdge 10 = .ok (.aload_n 0, 1) := by decide +kernel
theorem dX10_goOnByOneEdge_11 : decode cX10_goOnByOneEdge 11 = .ok (.getfield 25, 3) := by decide +kernel
theorem dX10_goOnByOneEdge_14 : decode cX10_goOnByOneEdge 14 = .ok (.iload_n 2, 1) := by decide +kernel
theorem dX10_goOnByOneEdge_15 : decode cX10_goOnByOneEdge 15 = .ok (.lconst 0, 1) := by decide +kernel
theorem dX10_goOnByOneEdge_16 : decode cX10_goOnByOneEdge 16 = .ok (.lastore, 1) := by decide +kernel
theorem dX10_goOnByOneEdge_17 : decode cX10_goOnByOneEdge 17 = .ok (.iinc 2 1, 3) := by decide +kernel
theorem dX10_goOnByOneEdge_20 : decode cX10_goOnByOneEdge 20 = .ok (.goto (-18), 3) := by decide +kernel
theorem dX10_goOnByOneEdge_23 : decode cX10_goOnByOneEdge 23 = .ok (.iconst 0, 1) := by decide +kernel
theorem dX10_goOnByOneEdge_24 : decode cX10_goOnByOneEdge 24 = .ok (.istore_n 2, 1) := by decide +kernel
theorem dX10_goOnByOneEdge_25 : decode cX10_goOnByOneEdge 25 = .ok (.iload_n 2, 1) := by decide +kernel
theorem dX10_goOnByOneEdge_26 : decode cX10_goOnByOneEdge 26 = .ok (.aload_n 1, 1) := by decide +kernel
theorem dX10_goOnByOneEdge_27 : decode cX10_goOnByOneEdge 27 = .ok (.getfield 34, 3) := by decide +kernel
theorem dX10_goOnByOneEdge_30 : decode cX10_goOnByOneEdge 30 = .ok (.if_icmp .ge 49, 3) := by decide +kernel
theorem dX10_goOnByOneEdge_33 : decode cX10_goOnByOneEdge 33 = .ok (.iconst 0, 1) := by decide +kernel
theorem dX10_goOnByOneEdge_34 : decode cX10_goOnByOneEdge 34 = .ok (.istore_n 3, 1) := by decide +kernel
theorem dX10_goOnByOneEdge_35 : decode cX10_goOnByOneEdge 35 = .ok (.aload_n 0, 1) := by decide +kernel
theorem dX10_goOnByOneEdge_36 : decode cX10_goOnByOneEdge 36 = .ok (.getfield 15, 3) := by decide +kernel
theorem dX10_goOnByOneEdge_39 : decode cX10_goOnByOneEdge 39 = .ok (.iload_n 2, 1) := by decide +kernel
theorem dX10_goOnByOneEdge_40 : decode cX10_goOnByOneEdge 40 = .ok (.laload, 1) := by decide +kernel
theorem dX10_goOnByOneEdge_41 : decode cX10_goOnByOneEdge 41 = .ok (.lconst 0, 1) := by decide +kernel
theorem dX10_goOnByOneEdge_42 : decode cX10_goOnByOneEdge 42 = .ok (.lcmp, 1) := by decide +kernel
theorem dX10_goOnByOneEdge_43 : decode cX10_goOnByOneEdge 43 = .ok (.ifCond .le 30, 3) := by decide +kernel
theorem dX10_goOnByOneEdge_46 : decode cX10_goOnByOneEdge 46 = .ok (.iload_n 3, 1) := by decide +kernel
theorem dX10_goOnByOneEdge_47 : decode cX10_goOnByOneEdge 47 = .ok (.aload_n 1, 1) := by decide +kernel
theorem dX10_goOnByOneEdge_48 : decode cX10_goOnByOneEdge 48 = .ok (.iload_n 2, 1) := by decide +kernel
theorem dX10_goOnByOneEdge_49 : decode cX10_goOnByOneEdge 49 = .ok (.invokevirtual 63, 3) := by decide +kernel
theorem dX10_goOnByOneEdge_52 : decode cX10_goOnByOneEdge 52 = .ok (.if_icmp .ge 21, 3) := by decide +kernel
theorem dX10_goOnByOneEdge_55 : decode cX10_goOnByOneEdge 55 = .ok (.aload_n 0, 1) := by decide +kernel
theorem dX10_goOnByOneEdge_56 : decode cX10_goOnByOneEdge 56 = .ok (.aload_n 1, 1) := by decide +kernel
theorem dX10_goOnByOneEdge_57 : decode cX10_goOnByOneEdge 57 = .ok (.iload_n 2, 1) := by decide +kernel
theorem dX10_goOnByOneEdge_58 : decode cX10_goOnByOneEdge 58 = .ok (.aload_n 1, 1) := by decide +kernel
theorem dX10_goOnByOneEdge_59 : decode cX10_goOnByOneEdge 59 = .ok (.iload_n 2, 1) := by decide +kernel
theorem dX10_goOnByOneEdge_60 : decode cX10_goOnByOneEdge 60 = .ok (.iload_n 3, 1) := by decide +kernel
theorem dX10_goOnByOneEdge_61 : decode cX10_goOnByOneEdge 61 = .ok (.invokevirtual 81, 3) := by decide +kernel
theorem dX10_goOnByOneEdge_64 : decode cX10_goOnByOneEdge 64 = .ok (.invokevirtual 84, 3) := by decide +kernel
theorem dX10_goOnByOneEdge_67 : decode cX10_goOnByOneEdge 67 = .ok (.iinc 3 1, 3) := by decide +kernel
theorem dX10_goOnByOneEdge_70 : decode cX10_goOnByOneEdge 70 = .ok (.goto (-35), 3) := by decide +kernel
theorem dX10_goOnByOneEdge_73 : decode cX10_goOnByOneEdge 73 = .ok (.iinc 2 1, 3) := by decide +kernel
theorem dX10_goOnByOneEdge_76 : decode cX10_goOnByOneEdge 76 = .ok (.goto (-51), 3) := by decide +kernel
theorem dX10_goOnByOneEdge_79 : decode cX10_goOnByOneEdge 79 = .ok (.aload_n 0, 1) := by decide +kernel
theorem dX10_goOnByOneEdge_80 : decode cX10_goOnByOneEdge 80 = .ok (.invokevirtual 88, 3) := by decide +kernel
theorem dX10_goOnByOneEdge_83 : decode cX10_goOnByOneEdge 83 = .ok (.return_, 1) := by decide +kernel
theorem dX10_extend_0 : decode cX10_extend 0 = .ok (.aload_n 1, 1) := by decide +kernel
theorem dX10_extend_1 : decode cX10_extend 1 = .ok (.iload_n 3, 1) := by decide +kernel
theorem dX10_extend_2 : decode cX10_extend 2 = .ok (.invokevirtual 91, 3) := by decide +kernel
theorem dX10_extend_5 : decode cX10_extend 5 = .ok (.ifCond .ne 4, 3) := by decide +kernel
theorem dX10_extend_8 : decode cX10_extend 8 = .ok (.return_, 1) := by decide +kernel
theorem dX10_extend_9 : decode cX10_extend 9 = .ok (.aload_n 0, 1) := by decide +kernel
theorem dX10_extend_10 : decode cX10_extend 10 = .ok (.getfield 19, 3) := by decide +kernel
theorem dX10_extend_13 : decode cX10_extend 13 = .ok (.iload_n 2, 1) := by decide +kernel
theorem dX10_extend_14 : decode cX10_extend 14 = .ok (.iaload, 1) := by decide +kernel
theorem dX10_extend_15 : decode cX10_extend 15 = .ok (.aload_n 0, 1) := by decide +kernel
theorem dX10_extend_16 : decode cX10_extend 16 = .ok (.getfield 9, 3) := by decide +kernel
theorem dX10_extend_19 : decode cX10_extend 19 = .ok (.iload_n 3, 1) := by decide +kernel
theorem dX10_extend_20 : decode cX10_extend 20 = .ok (.iaload, 1) := by decide +kernel
theorem dX10_extend_21 : decode cX10_extend 21 = .ok (.iadd, 1) := by decide +kernel
theorem dX10_extend_22 : decode cX10_extend 22 = .ok (.istore 4, 2) := by decide +kernel
theorem dX10_extend_24 : decode cX10_extend 24 = .ok (.aload_n 0, 1) := by decide +kernel
theorem dX10_extend_25 : decode cX10_extend 25 = .ok (.getfield 22, 3) := by decide +kernel
theorem dX10_extend_28 : decode cX10_extend 28 = .ok (.iload_n 2, 1) := by decide +kernel
theorem dX10_extend_29 : decode cX10_extend 29 = .ok (.iaload, 1) := by decide +kernel
theorem dX10_extend_30 : decode cX10_extend 30 = .ok (.aload_n 0, 1) := by decide +kernel
theorem dX10_extend_31 : decode cX10_extend 31 = .ok (.getfield 9, 3) := by decide +kernel
theorem dX10_extend_34 : decode cX10_extend 34 = .ok (.iload_n 3, 1) := by decide +kernel
theorem dX10_extend_35 : decode cX10_extend 35 = .ok (.iaload, 1) := by decide +kernel
theorem dX10_extend_36 : decode cX10_extend 36 = .ok (.iadd, 1) := by decide +kernel
theorem dX10_extend_37 : decode cX10_extend 37 = .ok (.istore 5, 2) := by decide +kernel
theorem dX10_extend_39 : decode cX10_extend 39 = .ok (.aload_n 0, 1) := by decide +kernel
theorem dX10_extend_40 : decode cX10_extend 40 = .ok (.getfield 25, 3) := by decide +kernel
theorem dX10_extend_43 : decode cX10_extend 43 = .ok (.iload_n 3, 1) := by decide +kernel
theorem dX10_extend_44 : decode cX10_extend 44 = .ok (.laload, 1) := by decide +kernel
theorem dX10_extend_45 : decode cX10_extend 45 = .ok (.lconst 0, 1) := by decide +kernel
theorem dX10_extend_46 : decode cX10_extend 46 = .ok (.lcmp, 1) := by decide +kernel
theorem dX10_extend_47 : decode cX10_extend 47 = .ok (.ifCond .ne 7, 3) := by decide +kernel
theorem dX10_extend_50 : decode cX10_extend 50 = .ok (.iconst 1, 1) := by decide +kernel
theorem dX10_extend_51 : decode cX10_extend 51 = .ok (.goto 4, 3) := by decide +kernel
theorem dX10_extend_54 : decode cX10_extend 54 = .ok (.iconst 0, 1) := by decide +kernel
theorem dX10_extend_55 : decode cX10_extend 55 = .ok (.istore 6, 2) := by decide +kernel
theorem dX10_extend_57 : decode cX10_extend 57 = .ok (.aload_n 0, 1) := by decide +kernel
theorem dX10_extend_58 : decode cX10_extend 58 = .ok (.getfield 28, 3) := by decide +kernel
theorem dX10_extend_61 : decode cX10_extend 61 = .ok (.iload_n 3, 1) := by decide +kernel
theorem dX10_extend_62 : decode cX10_extend 62 = .ok (.iload 6, 2) := by decide +kernel
theorem dX10_extend_64 : decode cX10_extend 64 = .ok (.ifCond .eq 8, 3) := by decide +kernel
theorem dX10_extend_67 : decode cX10_extend 67 = .ok (.iload 4, 2) := by decide +kernel
theorem dX10_extend_69 : decode cX10_extend 69 = .ok (.goto 14, 3) := by decide +kernel
theorem dX10_extend_72 : decode cX10_extend 72 = .ok (.aload_n 0, 1) := by decide +kernel
theorem dX10_extend_73 : decode cX10_extend 73 = .ok (.getfield 28, 3) := by decide +kernel
theorem dX10_extend_76 : decode cX10_extend 76 = .ok (.iload_n 3, 1) := by decide +kernel
theorem dX10_extend_77 : decode cX10_extend 77 = .ok (.iaload, 1) := by decide +kernel
theorem dX10_extend_78 : decode cX10_extend 78 = .ok (.iload 4, 2) := by decide +kernel
theorem dX10_extend_80 : decode cX10_extend 80 = .ok (.invokestatic 67, 3) := by decide +kernel
theorem dX10_extend_83 : decode cX10_extend 83 = .ok (.iastore, 1) := by decide +kernel
theorem dX10_extend_84 : decode cX10_extend 84 = .ok (.aload_n 0, 1) := by decide +kernel
theorem dX10_extend_85 : decode cX10_extend 85 = .ok (.getfield 31, 3) := by decide +kernel
theorem dX10_extend_88 : decode cX10_extend 88 = .ok (.iload_n 3, 1) := by decide +kernel
theorem dX10_extend_89 : decode cX10_extend 89 = .ok (.iload 6, 2) := by decide +kernel
theorem dX10_extend_91 : decode cX10_extend 91 = .ok (.ifCond .eq 8, 3) := by decide +kernel
theorem dX10_extend_94 : decode cX10_extend 94 = .ok (.iload 5, 2) := by decide +kernel
theorem dX10_extend_96 : decode cX10_extend 96 = .ok (.goto 14, 3) := by decide +kernel
theorem dX10_extend_99 : decode cX10_extend 99 = .ok (.aload_n 0, 1) := by decide +kernel
theorem dX10_extend_100 : decode cX10_extend 100 = .ok (.getfield 31, 3) := by decide +kernel
theorem dX10_extend_103 : decode cX10_extend 103 = .ok (.iload_n 3, 1) := by decide +kernel
theorem dX10_extend_104 : decode cX10_extend 104 = .ok (.iaload, 1) := by decide +kernel
theorem dX10_extend_105 : decode cX10_extend 105 = .ok (.iload 5, 2) := by decide +kernel
theorem dX10_extend_107 : decode cX10_extend 107 = .ok (.invokestatic 73, 3) := by decide +kernel
theorem dX10_extend_110 : decode cX10_extend 110 = .ok (.iastore, 1) := by decide +kernel
theorem dX10_extend_111 : decode cX10_extend 111 = .ok (.aload_n 0, 1) := by decide +kernel
theorem dX10_extend_112 : decode cX10_extend 112 = .ok (.getfield 25, 3) := by decide +kernel
theorem dX10_extend_115 : decode cX10_extend 115 = .ok (.iload_n 3, 1) := by decide +kernel
theorem dX10_extend_116 : decode cX10_extend 116 = .ok (.ldc2_w 76, 3) := by decide +kernel
theorem dX10_extend_119 : decode cX10_extend 119 = .ok (.aload_n 0, 1) := by decide +kernel
theorem dX10_extend_120 : decode cX10_extend 120 = .ok (.getfield 25, 3) := by decide +kernel
theorem dX10_extend_123 : decode cX10_extend 123 = .ok (.iload_n 3, 1) := by decide +kernel
theorem dX10_extend_124 : decode cX10_extend 124 = .ok (.laload, 1) := by decide +kernel
theorem dX10_extend_125 : decode cX10_extend 125 = .ok (.aload_n 0, 1) := by decide +kernel
theorem dX10_extend_126 : decode cX10_extend 126 = .ok (.getfield 15, 3) := by decide +kernel
theorem dX10_extend_129 : decode cX10_extend 129 = .ok (.iload_n 2, 1) := by decide +kernel
theorem dX10_extend_130 : decode cX10_extend 130 = .ok (.laload, 1) := by decide +kernel
theorem dX10_extend_131 : decode cX10_extend 131 = .ok (.ladd, 1) := by decide +kernel
theorem dX10_extend_132 : decode cX10_extend 132 = .ok (.invokestatic 78, 3) := by decide +kernel
theorem dX10_extend_135 : decode cX10_extend 135 = .ok (.lastore, 1) := by decide +kernel
theorem dX10_extend_136 : decode cX10_extend 136 = .ok (.return_, 1) := by decide +kernel
theorem dX10_swap_0 : decode cX10_swap 0 = .ok (.aload_n 0, 1) := by decide +kernel
theorem dX10_swap_1 : decode cX10_swap 1 = .ok (.getfield 15, 3) := by decide +kernel
theorem dX10_swap_4 : decode cX10_swap 4 = .ok (.astore_n 1, 1) := by decide +kernel
theorem dX10_swap_5 : decode cX10_swap 5 = .ok (.aload_n 0, 1) := by decide +kernel
theorem dX10_swap_6 : decode cX10_swap 6 = .ok (.getfield 19, 3) := by decide +kernel
theorem dX10_swap_9 : decode cX10_swap 9 = .ok (.astore_n 2, 1) := by decide +kernel
theorem dX10_swap_10 : decode cX10_swap 10 = .ok (.aload_n 0, 1) := by decide +kernel
theorem dX10_swap_11 : decode cX10_swap 11 = .ok (.getfield 22, 3) := by decide +kernel
theorem dX10_swap_14 : decode cX10_swap 14 = .ok (.astore_n 3, 1) := by decide +kernel
theorem dX10_swap_15 : decode cX10_swap 15 = .ok (.aload_n 0, 1) := by decide +kernel
theorem dX10_swap_16 : decode cX10_swap 16 = .ok (.aload_n 0, 1) := by decide +kernel
theorem dX10_swap_17 : decode cX10_swap 17 = .ok (.getfield 25, 3) := by decide +kernel
theorem dX10_swap_20 : decode cX10_swap 20 = .ok (.putfield 15, 3) := by decide +kernel
theorem dX10_swap_23 : decode cX10_swap 23 = .ok (.aload_n 0, 1) := by decide +kernel
theorem dX10_swap_24 : decode cX10_swap 24 = .ok (.aload_n 0, 1) := by decide +kernel
theorem dX10_swap_25 : decode cX10_swap 25 = .ok (.getfield 28, 3) := by decide +kernel
theorem dX10_swap_28 : decode cX10_swap 28 = .ok (.putfield 19, 3) := by decide +kernel
theorem dX10_swap_31 : decode cX10_swap 31 = .ok (.aload_n 0, 1) := by decide +kernel
theorem dX10_swap_32 : decode cX10_swap 32 = .ok (.aload_n 0, 1) := by decide +kernel
theorem dX10_swap_33 : decode cX10_swap 33 = .ok (.getfield 31, 3) := by decide +kernel
theorem dX10_swap_36 : decode cX10_swap 36 = .ok (.putfield 22, 3) := by decide +kernel
theorem dX10_swap_39 : decode cX10_swap 39 = .ok (.aload_n 0, 1) := by decide +kernel
theorem dX10_swap_40 : decode cX10_swap 40 = .ok (.aload_n 1, 1) := by decide +kernel
theorem dX10_swap_41 : decode cX10_swap 41 = .ok (.putfield 25, 3) := by decide +kernel
theorem dX10_swap_44 : decode cX10_swap 44 = .ok (.aload_n 0, 1) := by decide +kernel
theorem dX10_swap_45 : decode cX10_swap 45 = .ok (.aload_n 2, 1) := by decide +kernel
theorem dX10_swap_46 : decode cX10_swap 46 = .ok (.putfield 28, 3) := by decide +kernel
theorem dX10_swap_49 : decode cX10_swap 49 = .ok (.aload_n 0, 1) := by decide +kernel
theorem dX10_swap_50 : decode cX10_swap 50 = .ok (.aload_n 3, 1) := by decide +kernel
theorem dX10_swap_51 : decode cX10_swap 51 = .ok (.putfield 31, 3) := by decide +kernel
theorem dX10_swap_54 : decode cX10_swap 54 = .ok (.return_, 1) := by decide +kernel
theorem dX11_init_0 : decode cX11_init 0 = .ok (.aload_n 0, 1) := by decide +kernel
theorem dX11_init_1 : decode cX11_init 1 = .ok (.invokespecial 3, 3) := by decide +kernel
theorem dX11_init_4 : decode cX11_init 4 = .ok (.aload_n 0, 1) := by decide +kernel
theorem dX11_init_5 : decode cX11_init 5 = .ok (.new 9, 3) := by decide +kernel
theorem dX11_init_8 : decode cX11_init 8 = .ok (.dup, 1) := by decide +kernel
theorem dX11_init_9 : decode cX11_init 9 = .ok (.invokespecial 11, 3) := by decide +kernel
theorem dX11_init_12 : decode cX11_init 12 = .ok (.putfield 12, 3) := by decide +kernel
theorem dX11_init_15 : decode cX11_init 15 = .ok (.aload_n 0, 1) := by decide +kernel
theorem dX11_init_16 : decode cX11_init 16 = .ok (.new 9, 3) := by decide +kernel
theorem dX11_init_19 : decode cX11_init 19 = .ok (.dup, 1) := by decide +kernel
theorem dX11_init_20 : decode cX11_init 20 = .ok (.invokespecial 11, 3) := by decide +kernel
theorem dX11_init_23 : decode cX11_init 23 = .ok (.putfield 16, 3) := by decide +kernel
theorem dX11_init_26 : decode cX11_init 26 = .ok (.aload_n 0, 1) := by decide +kernel
theorem dX11_init_27 : decode cX11_init 27 = .ok (.new 9, 3) := by decide +kernel
theorem dX11_init_30 : decode cX11_init 30 = .ok (.dup, 1) := by decide +kernel
theorem dX11_init_31 : decode cX11_init 31 = .ok (.invokespecial 11, 3) := by decide +kernel
theorem dX11_init_34 : decode cX11_init 34 = .ok (.putfield 19, 3) := by decide +kernel
theorem dX11_init_37 : decode cX11_init 37 = .ok (.aload_n 0, 1) := by decide +kernel
theorem dX11_init_38 : decode cX11_init 38 = .ok (.iconst 3, 1) := by decide +kernel
theorem dX11_init_39 : decode cX11_init 39 = .ok (.anewarray 9, 3) := by decide +kernel
theorem dX11_init_42 : decode cX11_init 42 = .ok (.putfield 22, 3) := by decide +kernel
theorem dX11_init_45 : decode cX11_init 45 = .ok (.aload_n 0, 1) := by decide +kernel
theorem dX11_init_46 : decode cX11_init 46 = .ok (.new 26, 3) := by decide +kernel
theorem dX11_init_49 : decode cX11_init 49 = .ok (.dup, 1) := by decide +kernel
theorem dX11_init_50 : decode cX11_init 50 = .ok (.invokespecial 28, 3) := by decide +kernel
theorem dX11_init_53 : decode cX11_init 53 = .ok (.putfield 29, 3) := by decide +kernel
theorem dX11_init_56 : decode cX11_init 56 = .ok (.aload_n 0, 1) := by decide +kernel
theorem dX11_init_57 : decode cX11_init 57 = .ok (.new 33, 3) := by decide +kernel
theorem dX11_init_60 : decode cX11_init 60 = .ok (.dup, 1) := by decide +kernel
theorem dX11_init_61 : decode cX11_init 61 = .ok (.invokespecial 35, 3) := by decide +kernel
theorem dX11_init_64 : decode cX11_init 64 = .ok (.putfield 36, 3) := by decide +kernel
theorem dX11_init_67 : decode cX11_init 67 = .ok (.aload_n 0, 1) := by decide +kernel
theorem dX11_init_68 : decode cX11_init 68 = .ok (.new 40, 3) := by decide +kernel
theorem dX11_init_71 : decode cX11_init 71 = .ok (.dup, 1) := by decide +kernel
theorem dX11_init_72 : decode cX11_init 72 = .ok (.invokespecial 42, 3) := by decide +kernel
theorem dX11_init_75 : decode cX11_init 75 = .ok (.putfield 43, 3) := by decide +kernel
theorem dX11_init_78 : decode cX11_init 78 = .ok (.aload_n 0, 1) := by decide +kernel
theorem dX11_init_79 : decode cX11_init 79 = .ok (.new 47, 3) := by decide +kernel
theorem dX11_init_82 : decode cX11_init 82 = .ok (.dup, 1) := by decide +kernel
theorem dX11_init_83 : decode cX11_init 83 = .ok (.invokespecial 49, 3) := by decide +kernel
theorem dX11_init_86 : decode cX11_init 86 = .ok (.putfield 50, 3) := by decide +kernel
theorem dX11_init_89 : decode cX11_init 89 = .ok (.aload_n 0, 1) := by decide +kernel
theorem dX11_init_90 : decode cX11_init 90 = .ok (.new 54, 3) := by decide +kernel
theorem dX11_init_93 : decode cX11_init 93 = .ok (.dup, 1) := by decide +kernel
theorem dX11_init_94 : decode cX11_init 94 = .ok (.invokespecial 56, 3) := by decide +kernel
theorem dX11_init_97 : decode cX11_init 97 = .ok (.putfield 57, 3) := by decide +kernel
theorem dX11_init_100 : decode cX11_init 100 = .ok (.aload_n 0, 1) := by decide +kernel
theorem dX11_init_101 : decode cX11_init 101 = .ok (.new 54, 3) := by decide +kernel
theorem dX11_init_104 : decode cX11_init 104 = .ok (.dup, 1) := by decide +kernel
theorem dX11_init_105 : decode cX11_init 105 = .ok (.invokespecial 56, 3) := by decide +kernel
theorem dX11_init_108 : decode cX11_init 108 = .ok (.putfield 61, 3) := by decide +kernel
theorem dX11_init_111 : decode cX11_init 111 = .ok (.aload_n 0, 1) := by decide +kernel
theorem dX11_init_112 : decode cX11_init 112 = .ok (.new 54, 3) := by decide +kernel
theorem dX11_init_115 : decode cX11_init 115 = .ok (.dup, 1) := by decide +kernel
theorem dX11_init_116 : decode cX11_init 116 = .ok (.invokespecial 56, 3) := by decide +kernel
theorem dX11_init_119 : decode cX11_init 119 = .ok (.putfield 64, 3) := by decide +kernel
theorem dX11_init_122 : decode cX11_init 122 = .ok (.aload_n 0, 1) := by decide +kernel
theorem dX11_init_123 : decode cX11_init 123 = .ok (.bipush 26, 2) := by decide +kernel
theorem dX11_init_125 : decode cX11_init 125 = .ok (.newarray .int, 2) := by decide +kernel
theorem dX11_init_127 : decode cX11_init 127 = .ok (.putfield 67, 3) := by decide +kernel
theorem dX11_init_130 : decode cX11_init 130 = .ok (.aload_n 0, 1) := by decide +kernel
theorem dX11_init_131 : decode cX11_init 131 = .ok (.new 71, 3) := by decide +kernel
theorem dX11_init_134 : decode cX11_init 134 = .ok (.dup, 1) := by decide +kernel
theorem dX11_init_135 : decode cX11_init 135 = .ok (.invokespecial 73, 3) := by decide +kernel
theorem dX11_init_138 : decode cX11_init 138 = .ok (.putfield 74, 3) := by decide +kernel
theorem dX11_init_141 : decode cX11_init 141 = .ok (.aload_n 0, 1) := by decide +kernel
theorem dX11_init_142 : decode cX11_init 142 = .ok (.new 71, 3) := by decide +kernel
theorem dX11_init_145 : decode cX11_init 145 = .ok (.dup, 1) := by decide +kernel
theorem dX11_init_146 : decode cX11_init 146 = .ok (.invokespecial 73, 3) := by decide +kernel
theorem dX11_init_149 : decode cX11_init 149 = .ok (.putfield 78, 3) := by decide +kernel
theorem dX11_init_152 : decode cX11_init 152 = .ok (.aload_n 0, 1) := by decide +kernel
theorem dX11_init_153 : decode cX11_init 153 = .ok (.new 71, 3) := by decide +kernel
theorem dX11_init_156 : decode cX11_init 156 = .ok (.dup, 1) := by decide +kernel
theorem dX11_init_157 : decode cX11_init 157 = .ok (.invokespecial 73, 3) := by decide +kernel
theorem dX11_init_160 : decode cX11_init 160 = .ok (.putfield 81, 3) := by decide +kernel
theorem dX11_init_163 : decode cX11_init 163 = .ok (.aload_n 0, 1) := by decide +kernel
theorem dX11_init_164 : decode cX11_init 164 = .ok (.new 84, 3) := by decide +kernel
theorem dX11_init_167 : decode cX11_init 167 = .ok (.dup, 1) := by decide +kernel
theorem dX11_init_168 : decode cX11_init 168 = .ok (.invokespecial 86, 3) := by decide +kernel
theorem dX11_init_171 : decode cX11_init 171 = .ok (.putfield 87, 3) := by decide +kernel
theorem dX11_init_174 : decode cX11_init 174 = .ok (.aload_n 0, 1) := by decide +kernel
theorem dX11_init_175 : decode cX11_init 175 = .ok (.new 91, 3) := by decide +kernel
theorem dX11_init_178 : decode cX11_init 178 = .ok (.dup, 1) := by decide +kernel
theorem dX11_init_179 : decode cX11_init 179 = .ok (.invokespecial 93, 3) := by decide +kernel
theorem dX11_init_182 : decode cX11_init 182 = .ok (.putfield 94, 3) := by decide +kernel
theorem dX11_init_185 : decode cX11_init 185 = .ok (.aload_n 0, 1) := by decide +kernel
theorem dX11_init_186 : decode cX11_init 186 = .ok (.iconst (-1), 1) := by decide +kernel
theorem dX11_init_187 : decode cX11_init 187 = .ok (.putfield 98, 3) := by decide +kernel
theorem dX11_init_190 : decode cX11_init 190 = .ok (.iconst 0, 1) := by decide +kernel
theorem dX11_init_191 : decode cX11_init 191 = .ok (.istore_n 1, 1) := by decide +kernel
theorem dX11_init_192 : decode cX11_init 192 = .ok (.iload_n 1, 1) := by decide +kernel
theorem dX11_init_193 : decode cX11_init 193 = .ok (.iconst 3, 1) := by decide +kernel
theorem dX11_init_194 : decode cX11_init 194 = .ok (.if_icmp .ge 22, 3) := by decide +kernel
theorem dX11_init_197 : decode cX11_init 197 = .ok (.aload_n 0, 1) := by decide +kernel
theorem dX11_init_198 : decode cX11_init 198 = .ok (.getfield 22, 3) := by decide +kernel
theorem dX11_init_201 : decode cX11_init 201 = .ok (.iload_n 1, 1) := by decide +kernel
theorem dX11_init_202 : decode cX11_init 202 = .ok (.new 9, 3) := by decide +kernel
theorem dX11_init_205 : decode cX11_init 205 = .ok (.dup, 1) := by decide +kernel
theorem dX11_init_206 : decode cX11_init 206 = .ok (.invokespecial 11, 3) := by decide +kernel
theorem dX11_init_209 : decode cX11_init 209 = .ok (.aastore, 1) := by decide +kernel
theorem dX11_init_210 : decode cX11_init 210 = .ok (.iinc 1 1, 3) := by decide +kernel
theorem dX11_init_213 : decode cX11_init 213 = .ok (.goto (-21), 3) := by decide +kernel
theorem dX11_init_216 : decode cX11_init 216 = .ok (.return_, 1) := by decide +kernel
theorem dX11_feed_0 : decode cX11_feed 0 = .ok (.aload_n 0, 1) := by decide +kernel
theorem dX11_feed_1 : decode cX11_feed 1 = .ok (.getfield 12, 3) := by decide +kernel
theorem dX11_feed_4 : decode cX11_feed 4 = .ok (.invokevirtual 102, 3) := by decide +kernel
theorem dX11_feed_7 : decode cX11_feed 7 = .ok (.bipush 20, 2) := by decide +kernel
theorem dX11_feed_9 : decode cX11_feed 9 = .ok (.iadd, 1) := by decide +kernel
theorem dX11_feed_10 : decode cX11_feed 10 = .ok (.sipush 800, 3) := by decide +kernel
theorem dX11_feed_13 : decode cX11_feed 13 = .ok (.if_icmp .le 5, 3) := by decide +kernel
theorem dX11_feed_16 : decode cX11_feed 16 = .ok (.iconst (-1), 1) := by decide +kernel
theorem dX11_feed_17 : decode cX11_feed 17 = .ok (.ireturn, 1) := by decide +kernel
theorem dX11_feed_18 : decode cX11_feed 18 = .ok (.aload_n 0, 1) := by decide +kernel
theorem dX11_feed_19 : decode cX11_feed 19 = .ok (.getfield 12, 3) := by decide +kernel
theorem dX11_feed_22 : decode cX11_feed 22 = .ok (.iload_n 1, 1) := by decide +kernel
theorem dX11_feed_23 : decode cX11_feed 23 = .ok (.invokevirtual 106, 3) := by decide +kernel
theorem dX11_feed_26 : decode cX11_feed 26 = .ok (.aload_n 0, 1) := by decide +kernel
theorem dX11_feed_27 : decode cX11_feed 27 = .ok (.getfield 12, 3) := by decide +kernel
theorem dX11_feed_30 : decode cX11_feed 30 = .ok (.iload_n 2, 1) := by decide +kernel
theorem dX11_feed_31 : decode cX11_feed 31 = .ok (.invokevirtual 106, 3) := by decide +kernel
theorem dX11_feed_34 : decode cX11_feed 34 = .ok (.aload_n 0, 1) := by decide +kernel
theorem dX11_feed_35 : decode cX11_feed 35 = .ok (.getfield 12, 3) := by decide +kernel
theorem dX11_feed_38 : decode cX11_feed 38 = .ok (.iload_n 3, 1) := by decide +kernel
theorem dX11_feed_39 : decode cX11_feed 39 = .ok (.invokevirtual 106, 3) := by decide +kernel
theorem dX11_feed_42 : decode cX11_feed 42 = .ok (.aload_n 0, 1) := by decide +kernel
theorem dX11_feed_43 : decode cX11_feed 43 = .ok (.getfield 12, 3) := by decide +kernel
theorem dX11_feed_46 : decode cX11_feed 46 = .ok (.iload 4, 2) := by decide +kernel
theorem dX11_feed_48 : decode cX11_feed 48 = .ok (.invokevirtual 106, 3) := by decide +kernel
theorem dX11_feed_51 : decode cX11_feed 51 = .ok (.aload_n 0, 1) := by decide +kernel
theorem dX11_feed_52 : decode cX11_feed 52 = .ok (.getfield 12, 3) := by decide +kernel
theorem dX11_feed_55 : decode cX11_feed 55 = .ok (.iload 5, 2) := by decide +kernel
theorem dX11_feed_57 : decode cX11_feed 57 = .ok (.invokevirtual 106, 3) := by decide +kernel
theorem dX11_feed_60 : decode cX11_feed 60 = .ok (.aload_n 0, 1) := by decide +kernel
theorem dX11_feed_61 : decode cX11_feed 61 = .ok (.getfield 12, 3) := by decide +kernel
theorem dX11_feed_64 : decode cX11_feed 64 = .ok (.invokevirtual 102, 3) := by decide +kernel
theorem dX11_feed_67 : decode cX11_feed 67 = .ok (.ireturn, 1) := by decide +kernel
theorem dX11_end_0 : decode cX11_end 0 = .ok (.iload_n 1, 1) := by decide +kernel
theorem dX11_end_1 : decode cX11_end 1 = .ok (.ifCond .lt 14, 3) := by decide +kernel
theorem dX11_end_4 : decode cX11_end 4 = .ok (.iload_n 1, 1) := by decide +kernel
theorem dX11_end_5 : decode cX11_end 5 = .ok (.aload_n 0, 1) := by decide +kernel
theorem dX11_end_6 : decode cX11_end 6 = .ok (.getfield 12, 3) := by decide +kernel
theorem dX11_end_9 : decode cX11_end 9 = .ok (.invokevirtual 102, 3) := by decide +kernel
theorem dX11_end_12 : decode cX11_end 12 = .ok (.if_icmp .le 5, 3) := by decide +kernel
theorem dX11_end_15 : decode cX11_end 15 = .ok (.iconst (-1), 1) := by decide +kernel
theorem dX11_end_16 : decode cX11_end 16 = .ok (.ireturn, 1) := by decide +kernel
theorem dX11_end_17 : decode cX11_end 17 = .ok (.aload_n 0, 1) := by decide +kernel
theorem dX11_end_18 : decode cX11_end 18 = .ok (.getfield 12, 3) := by decide +kernel
theorem dX11_end_21 : decode cX11_end 21 = .ok (.iload_n 1, 1) := by decide +kernel
theorem dX11_end_22 : decode cX11_end 22 = .ok (.invokevirtual 110, 3) := by decide +kernel
theorem dX11_end_25 : decode cX11_end 25 = .ok (.iload_n 1, 1) := by decide +kernel
theorem dX11_end_26 : decode cX11_end 26 = .ok (.ireturn, 1) := by decide +kernel
theorem dX11_program_0 : decode cX11_program 0 = .ok (.aload_n 0, 1) := by decide +kernel
theorem dX11_program_1 : decode cX11_program 1 = .ok (.aload_n 0, 1) := by decide +kernel
theorem dX11_program_2 : decode cX11_program 2 = .ok (.getfield 29, 3) := by decide +kernel
theorem dX11_program_5 : decode cX11_program 5 = .ok (.aload_n 0, 1) := by decide +kernel
theorem dX11_program_6 : decode cX11_program 6 = .ok (.getfield 12, 3) := by decide +kernel
theorem dX11_program_9 : decode cX11_program 9 = .ok (.invokevirtual 113, 3) := by decide +kernel
theorem dX11_program_12 : decode cX11_program 12 = .ok (.putfield 98, 3) := by decide +kernel
theorem dX11_program_15 : decode cX11_program 15 = .ok (.aload_n 0, 1) := by decide +kernel
theorem dX11_program_16 : decode cX11_program 16 = .ok (.getfield 12, 3) := by decide +kernel
theorem dX11_program_19 : decode cX11_program 19 = .ok (.iconst 0, 1) := by decide +kernel
theorem dX11_program_20 : decode cX11_program 20 = .ok (.invokevirtual 110, 3) := by decide +kernel
theorem dX11_program_23 : decode cX11_program 23 = .ok (.aload_n 0, 1) := by decide +kernel
theorem dX11_program_24 : decode cX11_program 24 = .ok (.getfield 98, 3) := by decide +kernel
theorem dX11_program_27 : decode cX11_program 27 = .ok (.iconst (-1), 1) := by decide +kernel
theorem dX11_program_28 : decode cX11_program 28 = .ok (.if_icmp .eq 5, 3) := by decide +kernel
theorem dX11_program_31 : decode cX11_program 31 = .ok (.iconst (-1), 1) := by decide +kernel
theorem dX11_program_32 : decode cX11_program 32 = .ok (.ireturn, 1) := by decide +kernel
theorem dX11_program_33 : decode cX11_program 33 = .ok (.aload_n 0, 1) := by decide +kernel
theorem dX11_program_34 : decode cX11_program 34 = .ok (.invokevirtual 117, 3) := by decide +kernel
theorem dX11_program_37 : decode cX11_program 37 = .ok (.aload_n 0, 1) := by decide +kernel
theorem dX11_program_38 : decode cX11_program 38 = .ok (.getfield 36, 3) := by decide +kernel
theorem dX11_program_41 : decode cX11_program 41 = .ok (.getfield 120, 3) := by decide +kernel
theorem dX11_program_44 : decode cX11_program 44 = .ok (.ireturn, 1) := by decide +kernel
theorem dX11_fault_0 : decode cX11_fault 0 = .ok (.aload_n 0, 1) := by decide +kernel
theorem dX11_fault_1 : decode cX11_fault 1 = .ok (.getfield 98, 3) := by decide +kernel
theorem dX11_fault_4 : decode cX11_fault 4 = .ok (.ireturn, 1) := by decide +kernel
theorem dX11_keep_0 : decode cX11_keep 0 = .ok (.iload_n 1, 1) := by decide +kernel
theorem dX11_keep_1 : decode cX11_keep 1 = .ok (.ifCond .lt 15, 3) := by decide +kernel
theorem dX11_keep_4 : decode cX11_keep 4 = .ok (.iload_n 1, 1) := by decide +kernel
theorem dX11_keep_5 : decode cX11_keep 5 = .ok (.iconst 3, 1) := by decide +kernel
theorem dX11_keep_6 : decode cX11_keep 6 = .ok (.if_icmp .ge 10, 3) := by decide +kernel
theorem dX11_keep_9 : decode cX11_keep 9 = .ok (.aload_n 0, 1) := by decide +kernel
theorem dX11_keep_10 : decode cX11_keep 10 = .ok (.invokevirtual 123, 3) := by decide +kernel
theorem dX11_keep_13 : decode cX11_keep 13 = .ok (.ifCond .ne 5, 3) := by decide +kernel
theorem dX11_keep_16 : decode cX11_keep 16 = .ok (.iconst 0, 1) := by decide +kernel
theorem dX11_keep_17 : decode cX11_keep 17 = .ok (.ireturn, 1) := by decide +kernel
theorem dX11_keep_18 : decode cX11_keep 18 = .ok (.aload_n 0, 1) := by decide +kernel
theorem dX11_keep_19 : decode cX11_keep 19 = .ok (.getfield 22, 3) := by decide +kernel
theorem dX11_keep_22 : decode cX11_keep 22 = .ok (.iload_n 1, 1) := by decide +kernel
theorem dX11_keep_23 : decode cX11_keep 23 = .ok (.aaload, 1) := by decide +kernel
theorem dX11_keep_24 : decode cX11_keep 24 = .ok (.astore_n 2, 1) := by decide +kernel
theorem dX11_keep_25 : decode cX11_keep 25 = .ok (.aload_n 2, 1) := by decide +kernel
theorem dX11_keep_26 : decode cX11_keep 26 = .ok (.ifnonnull 5, 3) := by decide +kernel
theorem dX11_keep_29 : decode cX11_keep 29 = .ok (.iconst 0, 1) := by decide +kernel
theorem dX11_keep_30 : decode cX11_keep 30 = .ok (.ireturn, 1) := by decide +kernel
theorem dX11_keep_31 : decode cX11_keep 31 = .ok (.aload_n 2, 1) := by decide +kernel
theorem dX11_keep_32 : decode cX11_keep 32 = .ok (.aload_n 0, 1) := by decide +kernel
theorem dX11_keep_33 : decode cX11_keep 33 = .ok (.getfield 16, 3) := by decide +kernel
theorem dX11_keep_36 : decode cX11_keep 36 = .ok (.invokevirtual 127, 3) := by decide +kernel
theorem dX11_keep_39 : decode cX11_keep 39 = .ok (.iconst 1, 1) := by decide +kernel
theorem dX11_keep_40 : decode cX11_keep 40 = .ok (.ireturn, 1) := by decide +kernel
theorem dX11_back_0 : decode cX11_back 0 = .ok (.iload_n 1, 1) := by decide +kernel
theorem dX11_back_1 : decode cX11_back 1 = .ok (.ifCond .lt 8, 3) := by decide +kernel
theorem dX11_back_4 : decode cX11_back 4 = .ok (.iload_n 1, 1) := by decide +kernel
theorem dX11_back_5 : decode cX11_back 5 = .ok (.iconst 3, 1) := by decide +kernel
theorem dX11_back_6 : decode cX11_back 6 = .ok (.if_icmp .lt 5, 3) := by decide +kernel
theorem dX11_back_9 : decode cX11_back 9 = .ok (.iconst 0, 1) := by decide +kernel
theorem dX11_back_10 : decode cX11_back 10 = .ok (.ireturn, 1) := by decide +kernel
theorem dX11_back_11 : decode cX11_back 11 = .ok (.aload_n 0, 1) := by decide +kernel
theorem dX11_back_12 : decode cX11_back 12 = .ok (.getfield 22, 3) := by decide +kernel
theorem dX11_back_15 : decode cX11_back 15 = .ok (.iload_n 1, 1) := by decide +kernel
theorem dX11_back_16 : decode cX11_back 16 = .ok (.aaload, 1) := by decide +kernel
theorem dX11_back_17 : decode cX11_back 17 = .ok (.astore_n 2, 1) := by decide +kernel
theorem dX11_back_18 : decode cX11_back 18 = .ok (.aload_n 2, 1) := by decide +kernel
theorem dX11_back_19 : decode cX11_back 19 = .ok (.ifnull 15, 3) := by decide +kernel
theorem dX11_back_22 : decode cX11_back 22 = .ok (.aload_n 0, 1) := by decide +kernel
theorem dX11_back_23 : decode cX11_back 23 = .ok (.getfield 29, 3) := by decide +kernel
theorem dX11_back_26 : decode cX11_back 26 = .ok (.aload_n 2, 1) := by decide +kernel
theorem dX11_back_27 : decode cX11_back 27 = .ok (.invokevirtual 113, 3) := by decide +kernel
theorem dX11_back_30 : decode cX11_back 30 = .ok (.iconst (-1), 1) := by decide +kernel
theorem dX11_back_31 : decode cX11_back 31 = .ok (.if_icmp .eq 5, 3) := by decide +kernel
theorem dX11_back_34 : decode cX11_back 34 = .ok (.iconst 0, 1) := by decide +kernel
theorem dX11_back_35 : decode cX11_back 35 = .ok (.ireturn, 1) := by decide +kernel
theorem dX11_back_36 : decode cX11_back 36 = .ok (.aload_n 0, 1) := by decide +kernel
theorem dX11_back_37 : decode cX11_back 37 = .ok (.invokevirtual 117, 3) := by decide +kernel
theorem dX11_back_40 : decode cX11_back 40 = .ok (.iconst 1, 1) := by decide +kernel
theorem dX11_back_41 : decode cX11_back 41 = .ok (.ireturn, 1) := by decide +kernel
theorem dX11_settle_0 : decode cX11_settle 0 = .ok (.aload_n 0, 1) := by decide +kernel
theorem dX11_settle_1 : decode cX11_settle 1 = .ok (.getfield 16, 3) := by decide +kernel
theorem dX11_settle_4 : decode cX11_settle 4 = .ok (.aload_n 0, 1) := by decide +kernel
theorem dX11_settle_5 : decode cX11_settle 5 = .ok (.getfield 29, 3) := by decide +kernel
theorem dX11_settle_8 : decode cX11_settle 8 = .ok (.getfield 131, 3) := by decide +kernel
theorem dX11_settle_11 : decode cX11_settle 11 = .ok (.invokevirtual 127, 3) := by decide +kernel
theorem dX11_settle_14 : decode cX11_settle 14 = .ok (.aload_n 0, 1) := by decide +kernel
theorem dX11_settle_15 : decode cX11_settle 15 = .ok (.getfield 36, 3) := by decide +kernel
theorem dX11_settle_18 : decode cX11_settle 18 = .ok (.aload_n 0, 1) := by decide +kernel
theorem dX11_settle_19 : decode cX11_settle 19 = .ok (.getfield 29, 3) := by decide +kernel
theorem dX11_settle_22 : decode cX11_settle 22 = .ok (.invokevirtual 134, 3) := by decide +kernel
theorem dX11_settle_25 : decode cX11_settle 25 = .ok (.aload_n 0, 1) := by decide +kernel
theorem dX11_settle_26 : decode cX11_settle 26 = .ok (.getfield 43, 3) := by decide +kernel
theorem dX11_settle_29 : decode cX11_settle 29 = .ok (.aload_n 0, 1) := by decide +kernel
theorem dX11_settle_30 : decode cX11_settle 30 = .ok (.getfield 36, 3) := by decide +kernel
theorem dX11_settle_33 : decode cX11_settle 33 = .ok (.invokevirtual 138, 3) := by decide +kernel
theorem dX11_settle_36 : decode cX11_settle 36 = .ok (.aload_n 0, 1) := by decide +kernel
theorem dX11_settle_37 : decode cX11_settle 37 = .ok (.getfield 50, 3) := by decide +kernel
theorem dX11_settle_40 : decode cX11_settle 40 = .ok (.aload_n 0, 1) := by decide +kernel
theorem dX11_settle_41 : decode cX11_settle 41 = .ok (.getfield 36, 3) := by decide +kernel
theorem dX11_settle_44 : decode cX11_settle 44 = .ok (.invokevirtual 141, 3) := by decide +kernel
theorem dX11_settle_47 : decode cX11_settle 47 = .ok (.iconst 0, 1) := by decide +kernel
theorem dX11_settle_48 : decode cX11_settle 48 = .ok (.istore_n 1, 1) := by decide +kernel
theorem dX11_settle_49 : decode cX11_settle 49 = .ok (.iload_n 1, 1) := by decide +kernel
theorem dX11_settle_50 : decode cX11_settle 50 = .ok (.aload_n 0, 1) := by decide +kernel
theorem dX11_settle_51 : decode cX11_settle 51 = .ok (.getfield 36, 3) := by decide +kernel
theorem dX11_settle_54 : decode cX11_settle 54 = .ok (.getfield 120, 3) := by decide +kernel
theorem dX11_settle_57 : decode cX11_settle 57 = .ok (.if_icmp .ge 97, 3) := by decide +kernel
theorem dX11_settle_60 : decode cX11_settle 60 = .ok (.aload_n 0, 1) := by decide +kernel
theorem dX11_settle_61 : decode cX11_settle 61 = .ok (.getfield 43, 3) := by decide +kernel
theorem dX11_settle_64 : decode cX11_settle 64 = .ok (.getfield 142, 3) := by decide +kernel
theorem dX11_settle_67 : decode cX11_settle 67 = .ok (.iload_n 1, 1) := by decide +kernel
theorem dX11_settle_68 : decode cX11_settle 68 = .ok (.iaload, 1) := by decide +kernel
theorem dX11_settle_69 : decode cX11_settle 69 = .ok (.aload_n 0, 1) := by decide +kernel
theorem dX11_settle_70 : decode cX11_settle 70 = .ok (.getfield 43, 3) := by decide +kernel
theorem dX11_settle_73 : decode cX11_settle 73 = .ok (.getfield 145, 3) := by decide +kernel
theorem dX11_settle_76 : decode cX11_settle 76 = .ok (.iload_n 1, 1) := by decide +kernel
theorem dX11_settle_77 : decode cX11_settle 77 = .ok (.iaload, 1) := by decide +kernel
theorem dX11_settle_78 : decode cX11_settle 78 = .ok (.iand, 1) := by decide +kernel
theorem dX11_settle_79 : decode cX11_settle 79 = .ok (.istore_n 2, 1) := by decide +kernel
theorem dX11_settle_80 : decode cX11_settle 80 = .ok (.aload_n 0, 1) := by decide +kernel
theorem dX11_settle_81 : decode cX11_settle 81 = .ok (.getfield 61, 3) := by decide +kernel
theorem dX11_settle_84 : decode cX11_settle 84 = .ok (.iload_n 1, 1) := by decide +kernel
theorem dX11_settle_85 : decode cX11_settle 85 = .ok (.aload_n 0, 1) := by decide +kernel
theorem dX11_settle_86 : decode cX11_settle 86 = .ok (.getfield 43, 3) := by decide +kernel
theorem dX11_settle_89 : decode cX11_settle 89 = .ok (.getfield 148, 3) := by decide +kernel
theorem dX11_settle_92 : decode cX11_settle 92 = .ok (.iload_n 1, 1) := by decide +kernel
theorem dX11_settle_93 : decode cX11_settle 93 = .ok (.iaload, 1) := by decide +kernel
theorem dX11_settle_94 : decode cX11_settle 94 = .ok (.aload_n 0, 1) := by decide +kernel
theorem dX11_settle_95 : decode cX11_settle 95 = .ok (.getfield 43, 3) := by decide +kernel
theorem dX11_settle_98 : decode cX11_settle 98 = .ok (.getfield 151, 3) := by decide +kernel
theorem dX11_settle_101 : decode cX11_settle 101 = .ok (.iload_n 1, 1) := by decide +kernel
theorem dX11_settle_102 : decode cX11_settle 102 = .ok (.iaload, 1) := by decide +kernel
theorem dX11_settle_103 : decode cX11_settle 103 = .ok (.invokevirtual 154, 3) := by decide +kernel
theorem dX11_settle_106 : decode cX11_settle 106 = .ok (.aload_n 0, 1) := by decide +kernel
theorem dX11_settle_107 : decode cX11_settle 107 = .ok (.getfield 64, 3) := by decide +kernel
theorem dX11_settle_110 : decode cX11_settle 110 = .ok (.iload_n 1, 1) := by decide +kernel
theorem dX11_settle_111 : decode cX11_settle 111 = .ok (.aload_n 0, 1) := by decide +kernel
theorem dX11_settle_112 : decode cX11_settle 112 = .ok (.getfield 43, 3) := by decide +kernel
theorem dX11_settle_115 : decode cX11_settle 115 = .ok (.getfield 142, 3) := by decide +kernel
theorem dX11_settle_118 : decode cX11_settle 118 = .ok (.iload_n 1, 1) := by decide +kernel
theorem dX11_settle_119 : decode cX11_settle 119 = .ok (.iaload, 1) := by decide +kernel
theorem dX11_settle_120 : decode cX11_settle 120 = .ok (.aload_n 0, 1) := by decide +kernel
theorem dX11_settle_121 : decode cX11_settle 121 = .ok (.getfield 43, 3) := by decide +kernel
theorem dX11_settle_124 : decode cX11_settle 124 = .ok (.getfield 145, 3) := by decide +kernel
theorem dX11_settle_127 : decode cX11_settle 127 = .ok (.iload_n 1, 1) := by decide +kernel
theorem dX11_settle_128 : decode cX11_settle 128 = .ok (.iaload, 1) := by decide +kernel
theorem dX11_settle_129 : decode cX11_settle 129 = .ok (.iconst (-1), 1) := by decide +kernel
theorem dX11_settle_130 : decode cX11_settle 130 = .ok (.ixor, 1) := by decide +kernel
theorem dX11_settle_131 : decode cX11_settle 131 = .ok (.iand, 1) := by decide +kernel
theorem dX11_settle_132 : decode cX11_settle 132 = .ok (.aload_n 0, 1) := by decide +kernel
theorem dX11_settle_133 : decode cX11_settle 133 = .ok (.getfield 43, 3) := by decide +kernel
theorem dX11_settle_136 : decode cX11_settle 136 = .ok (.getfield 151, 3) := by decide +kernel
theorem dX11_settle_139 : decode cX11_settle 139 = .ok (.iload_n 1, 1) := by decide +kernel
theorem dX11_settle_140 : decode cX11_settle 140 = .ok (.iaload, 1) := by decide +kernel
theorem dX11_settle_141 : decode cX11_settle 141 = .ok (.iload_n 2, 1) := by decide +kernel
theorem dX11_settle_142 : decode cX11_settle 142 = .ok (.iconst (-1), 1) := by decide +kernel
theorem dX11_settle_143 : decode cX11_settle 143 = .ok (.ixor, 1) := by decide +kernel
theorem dX11_settle_144 : decode cX11_settle 144 = .ok (.iand, 1) := by decide +kernel
theorem dX11_settle_145 : decode cX11_settle 145 = .ok (.invokevirtual 154, 3) := by decide +kernel
theorem dX11_settle_148 : decode cX11_settle 148 = .ok (.iinc 1 1, 3) := by decide +kernel
theorem dX11_settle_151 : decode cX11_settle 151 = .ok (.goto (-102), 3) := by decide +kernel
theorem dX11_settle_154 : decode cX11_settle 154 = .ok (.aload_n 0, 1) := by decide +kernel
theorem dX11_settle_155 : decode cX11_settle 155 = .ok (.getfield 61, 3) := by decide +kernel
theorem dX11_settle_158 : decode cX11_settle 158 = .ok (.aload_n 0, 1) := by decide +kernel
theorem dX11_settle_159 : decode cX11_settle 159 = .ok (.getfield 36, 3) := by decide +kernel
theorem dX11_settle_162 : decode cX11_settle 162 = .ok (.aload_n 0, 1) := by decide +kernel
theorem dX11_settle_163 : decode cX11_settle 163 = .ok (.getfield 43, 3) := by decide +kernel
theorem dX11_settle_166 : decode cX11_settle 166 = .ok (.getfield 158, 3) := by decide +kernel
theorem dX11_settle_169 : decode cX11_settle 169 = .ok (.invokevirtual 162, 3) := by decide +kernel
theorem dX11_settle_172 : decode cX11_settle 172 = .ok (.aload_n 0, 1) := by decide +kernel
theorem dX11_settle_173 : decode cX11_settle 173 = .ok (.getfield 64, 3) := by decide +kernel
theorem dX11_settle_176 : decode cX11_settle 176 = .ok (.aload_n 0, 1) := by decide +kernel
theorem dX11_settle_177 : decode cX11_settle 177 = .ok (.getfield 36, 3) := by decide +kernel
theorem dX11_settle_180 : decode cX11_settle 180 = .ok (.aload_n 0, 1) := by decide +kernel
theorem dX11_settle_181 : decode cX11_settle 181 = .ok (.getfield 43, 3) := by decide +kernel
theorem dX11_settle_184 : decode cX11_settle 184 = .ok (.getfield 158, 3) := by decide +kernel
theorem dX11_settle_187 : decode cX11_settle 187 = .ok (.invokevirtual 162, 3) := by decide +kernel
theorem dX11_settle_190 : decode cX11_settle 190 = .ok (.aload_n 0, 1) := by decide +kernel
theorem dX11_settle_191 : decode cX11_settle 191 = .ok (.getfield 94, 3) := by decide +kernel
theorem dX11_settle_194 : decode cX11_settle 194 = .ok (.invokevirtual 165, 3) := by decide +kernel
theorem dX11_settle_197 : decode cX11_settle 197 = .ok (.aload_n 0, 1) := by decide +kernel
theorem dX11_settle_198 : decode cX11_settle 198 = .ok (.iconst 0, 1) := by decide +kernel
theorem dX11_settle_199 : decode cX11_settle 199 = .ok (.putfield 168, 3) := by decide +kernel
theorem dX11_settle_202 : decode cX11_settle 202 = .ok (.return_, 1) := by decide +kernel
theorem dX11_is_0 : decode cX11_is 0 = .ok (.iload_n 1, 1) := by decide +kernel
theorem dX11_is_1 : decode cX11_is 1 = .ok (.tableswitch 120 0 7 #[47, 55, 63, 74, 82, 91, 102, 112], 47) := by decide +kernel
theorem dX11_is_48 : decode cX11_is 48 = .ok (.aload_n 0, 1) := by decide +kernel
theorem dX11_is_49 : decode cX11_is 49 = .ok (.getfield 36, 3) := by decide +kernel
theorem dX11_is_52 : decode cX11_is 52 = .ok (.getfield 172, 3) := by decide +kernel
theorem dX11_is_55 : decode cX11_is 55 = .ok (.ireturn, 1) := by decide +kernel
theorem dX11_is_56 : decode cX11_is 56 = .ok (.aload_n 0, 1) := by decide +kernel
theorem dX11_is_57 : decode cX11_is 57 = .ok (.getfield 36, 3) := by decide +kernel
theorem dX11_is_60 : decode cX11_is 60 = .ok (.getfield 120, 3) := by decide +kernel
theorem dX11_is_63 : decode cX11_is 63 = .ok (.ireturn, 1) := by decide +kernel
theorem dX11_is_64 : decode cX11_is 64 = .ok (.aload_n 0, 1) := by decide +kernel
theorem dX11_is_65 : decode cX11_is 65 = .ok (.getfield 36, 3) := by decide +kernel
theorem dX11_is_68 : decode cX11_is 68 = .ok (.getfield 175, 3) := by decide +kernel
theorem dX11_is_71 : decode cX11_is 71 = .ok (.getfield 179, 3) := by decide +kernel
theorem dX11_is_74 : decode cX11_is 74 = .ok (.ireturn, 1) := by decide +kernel
theorem dX11_is_75 : decode cX11_is 75 = .ok (.aload_n 0, 1) := by decide +kernel
theorem dX11_is_76 : decode cX11_is 76 = .ok (.getfield 36, 3) := by decide +kernel
theorem dX11_is_79 : decode cX11_is 79 = .ok (.invokevirtual 184, 3) := by decide +kernel
theorem dX11_is_82 : decode cX11_is 82 = .ok (.ireturn, 1) := by decide +kernel
theorem dX11_is_83 : decode cX11_is 83 = .ok (.aload_n 0, 1) := by decide +kernel
theorem dX11_is_84 : decode cX11_is 84 = .ok (.getfield 36, 3) := by decide +kernel
theorem dX11_is_87 : decode cX11_is 87 = .ok (.iconst 0, 1) := by decide +kernel
theorem dX11_is_88 : decode cX11_is 88 = .ok (.invokevirtual 187, 3) := by decide +kernel
theorem dX11_is_91 : decode cX11_is 91 = .ok (.ireturn, 1) := by decide +kernel
theorem dX11_is_92 : decode cX11_is 92 = .ok (.aload_n 0, 1) := by decide +kernel
theorem dX11_is_93 : decode cX11_is 93 = .ok (.getfield 43, 3) := by decide +kernel
theorem dX11_is_96 : decode cX11_is 96 = .ok (.getfield 191, 3) := by decide +kernel
theorem dX11_is_99 : decode cX11_is 99 = .ok (.invokestatic 194, 3) := by decide +kernel
theorem dX11_is_102 : decode cX11_is 102 = .ok (.ireturn, 1) := by decide +kernel
theorem dX11_is_103 : decode cX11_is 103 = .ok (.aload_n 0, 1) := by decide +kernel
theorem dX11_is_104 : decode cX11_is 104 = .ok (.getfield 36, 3) := by decide +kernel
theorem dX11_is_107 : decode cX11_is 107 = .ok (.bipush 6, 2) := by decide +kernel
theorem dX11_is_109 : decode cX11_is 109 = .ok (.invokevirtual 187, 3) := by decide +kernel
theorem dX11_is_112 : decode cX11_is 112 = .ok (.ireturn, 1) := by decide +kernel
theorem dX11_is_113 : decode cX11_is 113 = .ok (.aload_n 0, 1) := by decide +kernel
theorem dX11_is_114 : decode cX11_is 114 = .ok (.getfield 12, 3) := by decide +kernel
theorem dX11_is_117 : decode cX11_is 117 = .ok (.invokevirtual 102, 3) := by decide +kernel
theorem dX11_is_120 : decode cX11_is 120 = .ok (.ireturn, 1) := by decide +kernel
theorem dX11_is_121 : decode cX11_is 121 = .ok (.iconst (-1), 1) := by decide +kernel
theorem dX11_is_122 : decode cX11_is 122 = .ok (.ireturn, 1) := by decide +kernel
theorem dX11_node_0 : decode cX11_node 0 = .ok (.aload_n 0, 1) := by decide +kernel
theorem dX11_node_1 : decode cX11_node 1 = .ok (.getfield 36, 3) := by decide +kernel
theorem dX11_node_4 : decode cX11_node 4 = .ok (.iload_n 1, 1) := by decide +kernel
theorem dX11_node_5 : decode cX11_node 5 = .ok (.invokevirtual 198, 3) := by decide +kernel
theorem dX11_node_8 : decode cX11_node 8 = .ok (.ifCond .ne 6, 3) := by decide +kernel
theorem dX11_node_11 : decode cX11_node 11 = .ok (.bipush (-2), 2) := by decide +kernel
theorem dX11_node_13 : decode cX11_node 13 = .ok (.ireturn, 1) := by decide +kernel
theorem dX11_node_14 : decode cX11_node 14 = .ok (.iload_n 2, 1) := by decide +kernel
theorem dX11_node_15 : decode cX11_node 15 = .ok (.tableswitch 123 0 7 #[45, 55, 65, 75, 85, 94, 103, 113], 45) := by decide +kernel
theorem dX11_node_60 : decode cX11_node 60 = .ok (.aload_n 0, 1) := by decide +kernel
theorem dX11_node_61 : decode cX11_node 61 = .ok (.getfield 36, 3) := by decide +kernel
theorem dX11_node_64 : decode cX11_node 64 = .ok (.getfield 202, 3) := by decide +kernel
theorem dX11_node_67 : decode cX11_node 67 = .ok (.iload_n 1, 1) := by decide +kernel
theorem dX11_node_68 : decode cX11_node 68 = .ok (.iaload, 1) := by decide +kernel
theorem dX11_node_69 : decode cX11_node 69 = .ok (.ireturn, 1) := by decide +kernel
theorem dX11_node_70 : decode cX11_node 70 = .ok (.aload_n 0, 1) := by decide +kernel
theorem dX11_node_71 : decode cX11_node 71 = .ok (.getfield 36, 3) := by decide +kernel
theorem dX11_node_74 : decode cX11_node 74 = .ok (.getfield 205, 3) := by decide +kernel
theorem dX11_node_77 : decode cX11_node 77 = .ok (.iload_n 1, 1) := by decide +kernel
theorem dX11_node_78 : decode cX11_node 78 = .ok (.iaload, 1) := by decide +kernel
theorem dX11_node_79 : decode cX11_node 79 = .ok (.ireturn, 1) := by decide +kernel
theorem dX11_node_80 : decode cX11_node 80 = .ok (.aload_n 0, 1) := by decide +kernel
theorem dX11_node_81 : decode cX11_node 81 = .ok (.getfield 36, 3) := by decide +kernel
theorem dX11_node_84 : decode cX11_node 84 = .ok (.getfield 208, 3) := by decide +kernel
theorem dX11_node_87 : decode cX11_node 87 = .ok (.iload_n 1, 1) := by decide +kernel
theorem dX11_node_88 : decode cX11_node 88 = .ok (.iaload, 1) := by decide +kernel
theorem dX11_node_89 : decode cX11_node 89 = .ok (.ireturn, 1) := by decide +kernel
theorem dX11_node_90 : decode cX11_node 90 = .ok (.aload_n 0, 1) := by decide +kernel
theorem dX11_node_91 : decode cX11_node 91 = .ok (.getfield 36, 3) := by decide +kernel
theorem dX11_node_94 : decode cX11_node 94 = .ok (.getfield 211, 3) := by decide +kernel
theorem dX11_node_97 : decode cX11_node 97 = .ok (.iload_n 1, 1) := by decide +kernel
theorem dX11_node_98 : decode cX11_node 98 = .ok (.iaload, 1) := by decide +kernel
theorem dX11_node_99 : decode cX11_node 99 = .ok (.ireturn, 1) := by decide +kernel
theorem dX11_node_100 : decode cX11_node 100 = .ok (.aload_n 0, 1) := by decide +kernel
theorem dX11_node_101 : decode cX11_node 101 = .ok (.getfield 36, 3) := by decide +kernel
theorem dX11_node_104 : decode cX11_node 104 = .ok (.iload_n 1, 1) := by decide +kernel
theorem dX11_node_105 : decode cX11_node 105 = .ok (.invokevirtual 214, 3) := by decide +kernel
theorem dX11_node_108 : decode cX11_node 108 = .ok (.ireturn, 1) := by decide +kernel
theorem dX11_node_109 : decode cX11_node 109 = .ok (.aload_n 0, 1) := by decide +kernel
theorem dX11_node_110 : decode cX11_node 110 = .ok (.getfield 36, 3) := by decide +kernel
theorem dX11_node_113 : decode cX11_node 113 = .ok (.iload_n 1, 1) := by decide +kernel
theorem dX11_node_114 : decode cX11_node 114 = .ok (.invokevirtual 217, 3) := by decide +kernel
theorem dX11_node_117 : decode cX11_node 117 = .ok (.ireturn, 1) := by decide +kernel
theorem dX11_node_118 : decode cX11_node 118 = .ok (.aload_n 0, 1) := by decide +kernel
theorem dX11_node_119 : decode cX11_node 119 = .ok (.getfield 36, 3) := by decide +kernel
theorem dX11_node_122 : decode cX11_node 122 = .ok (.getfield 220, 3) := by decide +kernel
theorem dX11_node_125 : decode cX11_node 125 = .ok (.iload_n 1, 1) := by decide +kernel
theorem dX11_node_126 : decode cX11_node 126 = .ok (.iaload, 1) := by decide +kernel
theorem dX11_node_127 : decode cX11_node 127 = .ok (.ireturn, 1) := by decide +kernel
theorem dX11_node_128 : decode cX11_node 128 = .ok (.aload_n 0, 1) := by decide +kernel
theorem dX11_node_129 : decode cX11_node 129 = .ok (.getfield 36, 3) := by decide +kernel
theorem dX11_node_132 : decode cX11_node 132 = .ok (.getfield 223, 3) := by decide +kernel
theorem dX11_node_135 : decode cX11_node 135 = .ok (.iload_n 1, 1) := by decide +kernel
theorem dX11_node_136 : decode cX11_node 136 = .ok (.iaload, 1) := by decide +kernel
theorem dX11_node_137 : decode cX11_node 137 = .ok (.ireturn, 1) := by decide +kernel
theorem dX11_node_138 : decode cX11_node 138 = .ok (.bipush (-2), 2) := by decide +kernel
theorem dX11_node_140 : decode cX11_node 140 = .ok (.ireturn, 1) := by decide +kernel
theorem dX11_expression_0 : decode cX11_expression 0 = .ok (.aload_n 0, 1) := by decide +kernel
theorem dX11_expression_1 : decode cX11_expression 1 = .ok (.getfield 36, 3) := by decide +kernel
theorem dX11_expression_4 : decode cX11_expression 4 = .ok (.getfield 175, 3) := by decide +kernel
theorem dX11_expression_7 : decode cX11_expression 7 = .ok (.astore_n 3, 1) := by decide +kernel
theorem dX11_expression_8 : decode cX11_expression 8 = .ok (.aload_n 3, 1) := by decide +kernel
theorem dX11_expression_9 : decode cX11_expression 9 = .ok (.iload_n 1, 1) := by decide +kernel
theorem dX11_expression_10 : decode cX11_expression 10 = .ok (.invokevirtual 226, 3) := by decide +kernel
theorem dX11_expression_13 : decode cX11_expression 13 = .ok (.ifCond .ne 6, 3) := by decide +kernel
theorem dX11_expression_16 : decode cX11_expression 16 = .ok (.bipush (-2), 2) := by decide +kernel
theorem dX11_expression_18 : decode cX11_expression 18 = .ok (.ireturn, 1) := by decide +kernel
theorem dX11_expression_19 : decode cX11_expression 19 = .ok (.iload_n 2, 1) := by decide +kernel
theorem dX11_expression_20 : decode cX11_expression 20 = .ok (.tableswitch 114 0 5 #[40, 47, 54, 61, 70, 88], 40) := by decide +kernel
theorem dX11_expression_60 : decode cX11_expression 60 = .ok (.aload_n 3, 1) := by decide +kernel
theorem dX11_expression_61 : decode cX11_expression 61 = .ok (.getfield 229, 3) := by decide +kernel
theorem dX11_expression_64 : decode cX11_expression 64 = .ok (.iload_n 1, 1) := by decide +kernel
theorem dX11_expression_65 : decode cX11_expression 65 = .ok (.iaload, 1) := by decide +kernel
theorem dX11_expression_66 : decode cX11_expression 66 = .ok (.ireturn, 1) := by decide +kernel
theorem dX11_expression_67 : decode cX11_expression 67 = .ok (.aload_n 3, 1) := by decide +kernel
theorem dX11_expression_68 : decode cX11_expression 68 = .ok (.getfield 232, 3) := by decide +kernel
theorem dX11_expression_71 : decode cX11_expression 71 = .ok (.iload_n 1, 1) := by decide +kernel
theorem dX11_expression_72 : decode cX11_expression 72 = .ok (.iaload, 1) := by decide +kernel
theorem dX11_expression_73 : decode cX11_expression 73 = .ok (.ireturn, 1) := by decide +kernel
theorem dX11_expression_74 : decode cX11_expression 74 = .ok (.aload_n 3, 1) := by decide +kernel
theorem dX11_expression_75 : decode cX11_expression 75 = .ok (.getfield 235, 3) := by decide +kernel
theorem dX11_expression_78 : decode cX11_expression 78 = .ok (.iload_n 1, 1) := by decide +kernel
theorem dX11_expression_79 : decode cX11_expression 79 = .ok (.iaload, 1) := by decide +kernel
theorem dX11_expression_80 : decode cX11_expression 80 = .ok (.ireturn, 1) := by decide +kernel
theorem dX11_expression_81 : decode cX11_expression 81 = .ok (.aload_n 3, 1) := by decide +kernel
theorem dX11_expression_82 : decode cX11_expression 82 = .ok (.iload_n 1, 1) := by decide +kernel
theorem dX11_expression_83 : decode cX11_expression 83 = .ok (.invokevirtual 238, 3) := by decide +kernel
theorem dX11_expression_86 : decode cX11_expression 86 = .ok (.invokestatic 194, 3) := by decide +kernel
theorem dX11_expression_89 : decode cX11_expression 89 = .ok (.ireturn, 1) := by decide +kernel
theorem dX11_expression_90 : decode cX11_expression 90 = .ok (.aload_n 0, 1) := by decide +kernel
theorem dX11_expression_91 : decode cX11_expression 91 = .ok (.getfield 36, 3) := by decide +kernel
theorem dX11_expression_94 : decode cX11_expression 94 = .ok (.aload_n 0, 1) := by decide +kernel
theorem dX11_expression_95 : decode cX11_expression 95 = .ok (.getfield 43, 3) := by decide +kernel
theorem dX11_expression_98 : decode cX11_expression 98 = .ok (.getfield 151, 3) := by decide +kernel
theorem dX11_expression_101 : decode cX11_expression 101 = .ok (.iconst 1, 1) := by decide +kernel
theorem dX11_expression_102 : decode cX11_expression 102 = .ok (.iload_n 1, 1) := by decide +kernel
theorem dX11_expression_103 : decode cX11_expression 103 = .ok (.ishl, 1) := by decide +kernel
theorem dX11_expression_104 : decode cX11_expression 104 = .ok (.invokevirtual 241, 3) := by decide +kernel
theorem dX11_expression_107 : decode cX11_expression 107 = .ok (.ireturn, 1) := by decide +kernel
theorem dX11_expression_108 : decode cX11_expression 108 = .ok (.aload_n 0, 1) := by decide +kernel
theorem dX11_expression_109 : decode cX11_expression 109 = .ok (.getfield 36, 3) := by decide +kernel
theorem dX11_expression_112 : decode cX11_expression 112 = .ok (.getfield 120, 3) := by decide +kernel
theorem dX11_expression_115 : decode cX11_expression 115 = .ok (.aload_n 0, 1) := by decide +kernel
theorem dX11_expression_116 : decode cX11_expression 116 = .ok (.getfield 36, 3) := by decide +kernel
theorem dX11_expression_119 : decode cX11_expression 119 = .ok (.aload_n 0, 1) := by decide +kernel
theorem dX11_expression_120 : decode cX11_expression 120 = .ok (.getfield 43, 3) := by decide +kernel
theorem dX11_expression_123 : decode cX11_expression 123 = .ok (.getfield 245, 3) := by decide +kernel
theorem dX11_expression_126 : decode cX11_expression 126 = .ok (.iconst 1, 1) := by decide +kernel
theorem dX11_expression_127 : decode cX11_expression 127 = .ok (.iload_n 1, 1) := by decide +kernel
theorem dX11_expression_128 : decode cX11_expression 128 = .ok (.ishl, 1) := by decide +kernel
theorem dX11_expression_129 : decode cX11_expression 129 = .ok (.invokevirtual 241, 3) := by decide +kernel
theorem dX11_expression_132 : decode cX11_expression 132 = .ok (.isub, 1) := by decide +kernel
theorem dX11_expression_133 : decode cX11_expression 133 = .ok (.ireturn, 1) := by decide +kernel
theorem dX11_expression_134 : decode cX11_expression 134 = .ok (.bipush (-2), 2) := by decide +kernel
theorem dX11_expression_136 : decode cX11_expression 136 = .ok (.ireturn, 1) := by decide +kernel
theorem dX11_risky_0 : decode cX11_risky 0 = .ok (.iconst 0, 1) := by decide +kernel
theorem dX11_risky_1 : decode cX11_risky 1 = .ok (.istore_n 1, 1) := by decide +kernel
theorem dX11_risky_2 : decode cX11_risky 2 = .ok (.iconst 0, 1) := by decide +kernel
theorem dX11_risky_3 : decode cX11_risky 3 = .ok (.istore_n 2, 1) := by decide +kernel
theorem dX11_risky_4 : decode cX11_risky 4 = .ok (.iload_n 2, 1) := by decide +kernel
theorem dX11_risky_5 : decode cX11_risky 5 = .ok (.aload_n 0, 1) := by decide +kernel
theorem dX11_risky_6 : decode cX11_risky 6 = .ok (.getfield 36, 3) := by decide +kernel
theorem dX11_risky_9 : decode cX11_risky 9 = .ok (.getfield 175, 3) := by decide +kernel
theorem dX11_risky_12 : decode cX11_risky 12 = .ok (.getfield 179, 3) := by decide +kernel
theorem dX11_risky_15 : decode cX11_risky 15 = .ok (.if_icmp .ge 26, 3) := by decide +kernel
theorem dX11_risky_18 : decode cX11_risky 18 = .ok (.iload_n 1, 1) := by decide +kernel
theorem dX11_risky_19 : decode cX11_risky 19 = .ok (.aload_n 0, 1) := by decide +kernel
theorem dX11_risky_20 : decode cX11_risky 20 = .ok (.getfield 36, 3) := by decide +kernel
theorem dX11_risky_23 : decode cX11_risky 23 = .ok (.getfield 175, 3) := by decide +kernel
theorem dX11_risky_26 : decode cX11_risky 26 = .ok (.iload_n 2, 1) := by decide +kernel
theorem dX11_risky_27 : decode cX11_risky 27 = .ok (.invokevirtual 238, 3) := by decide +kernel
theorem dX11_risky_30 : decode cX11_risky 30 = .ok (.invokestatic 194, 3) := by decide +kernel
theorem dX11_risky_33 : decode cX11_risky 33 = .ok (.iadd, 1) := by decide +kernel
theorem dX11_risky_34 : decode cX11_risky 34 = .ok (.istore_n 1, 1) := by decide +kernel
theorem dX11_risky_35 : decode cX11_risky 35 = .ok (.iinc 2 1, 3) := by decide +kernel
theorem dX11_risky_38 : decode cX11_risky 38 = .ok (.goto (-34), 3) := by decide +kernel
theorem dX11_risky_41 : decode cX11_risky 41 = .ok (.iload_n 1, 1) := by decide +kernel
theorem dX11_risky_42 : decode cX11_risky 42 = .ok (.ireturn, 1) := by decide +kernel
theorem dX11_fact_0 : decode cX11_fact 0 = .ok (.aload_n 0, 1) := by decide +kernel
theorem dX11_fact_1 : decode cX11_fact 1 = .ok (.iload_n 1, 1) := by decide +kernel
theorem dX11_fact_2 : decode cX11_fact 2 = .ok (.invokevirtual 248, 3) := by decide +kernel
theorem dX11_fact_5 : decode cX11_fact 5 = .ok (.ifCond .eq 14, 3) := by decide +kernel
theorem dX11_fact_8 : decode cX11_fact 8 = .ok (.aload_n 0, 1) := by decide +kernel
theorem dX11_fact_9 : decode cX11_fact 9 = .ok (.getfield 36, 3) := by decide +kernel
theorem dX11_fact_12 : decode cX11_fact 12 = .ok (.iload_n 2, 1) := by decide +kernel
theorem dX11_fact_13 : decode cX11_fact 13 = .ok (.invokevirtual 198, 3) := by decide +kernel
theorem dX11_fact_16 : decode cX11_fact 16 = .ok (.ifCond .ne 5, 3) := by decide +kernel
theorem dX11_fact_19 : decode cX11_fact 19 = .ok (.iconst (-1), 1) := by decide +kernel
theorem dX11_fact_20 : decode cX11_fact 20 = .ok (.ireturn, 1) := by decide +kernel
theorem dX11_fact_21 : decode cX11_fact 21 = .ok (.iload_n 3, 1) := by decide +kernel
theorem dX11_fact_22 : decode cX11_fact 22 = .ok (.tableswitch 158 0 7 #[46, 60, 74, 88, 102, 116, 130, 144], 46) := by decide +kernel
theorem dX11_fact_68 : decode cX11_fact 68 = .ok (.aload_n 0, 1) := by decide +kernel
theorem dX11_fact_69 : decode cX11_fact 69 = .ok (.getfield 43, 3) := by decide +kernel
theorem dX11_fact_72 : decode cX11_fact 72 = .ok (.getfield 151, 3) := by decide +kernel
theorem dX11_fact_75 : decode cX11_fact 75 = .ok (.iload_n 2, 1) := by decide +kernel
theorem dX11_fact_76 : decode cX11_fact 76 = .ok (.iaload, 1) := by decide +kernel
theorem dX11_fact_77 : decode cX11_fact 77 = .ok (.iload_n 1, 1) := by decide +kernel
theorem dX11_fact_78 : decode cX11_fact 78 = .ok (.invokestatic 251, 3) := by decide +kernel
theorem dX11_fact_81 : decode cX11_fact 81 = .ok (.ireturn, 1) := by decide +kernel
theorem dX11_fact_82 : decode cX11_fact 82 = .ok (.aload_n 0, 1) := by decide +kernel
theorem dX11_fact_83 : decode cX11_fact 83 = .ok (.getfield 43, 3) := by decide +kernel
theorem dX11_fact_86 : decode cX11_fact 86 = .ok (.getfield 245, 3) := by decide +kernel
theorem dX11_fact_89 : decode cX11_fact 89 = .ok (.iload_n 2, 1) := by decide +kernel
theorem dX11_fact_90 : decode cX11_fact 90 = .ok (.iaload, 1) := by decide +kernel
theorem dX11_fact_91 : decode cX11_fact 91 = .ok (.iload_n 1, 1) := by decide +kernel
theorem dX11_fact_92 : decode cX11_fact 92 = .ok (.invokestatic 251, 3) := by decide +kernel
theorem dX11_fact_95 : decode cX11_fact 95 = .ok (.ireturn, 1) := by decide +kernel
theorem dX11_fact_96 : decode cX11_fact 96 = .ok (.aload_n 0, 1) := by decide +kernel
theorem dX11_fact_97 : decode cX11_fact 97 = .ok (.getfield 43, 3) := by decide +kernel
theorem dX11_fact_100 : decode cX11_fact 100 = .ok (.getfield 255, 3) := by decide +kernel
theorem dX11_fact_103 : decode cX11_fact 103 = .ok (.iload_n 2, 1) := by decide +kernel
theorem dX11_fact_104 : decode cX11_fact 104 = .ok (.iaload, 1) := by decide +kernel
theorem dX11_fact_105 : decode cX11_fact 105 = .ok (.iload_n 1, 1) := by decide +kernel
theorem dX11_fact_106 : decode cX11_fact 106 = .ok (.invokestatic 251, 3) := by decide +kernel
theorem dX11_fact_109 : decode cX11_fact 109 = .ok (.ireturn, 1) := by decide +kernel
theorem dX11_fact_110 : decode cX11_fact 110 = .ok (.aload_n 0, 1) := by decide +kernel
theorem dX11_fact_111 : decode cX11_fact 111 = .ok (.getfield 43, 3) := by decide +kernel
theorem dX11_fact_114 : decode cX11_fact 114 = .ok (.getfield 258, 3) := by decide +kernel
theorem dX11_fact_117 : decode cX11_fact 117 = .ok (.iload_n 2, 1) := by decide +kernel
theorem dX11_fact_118 : decode cX11_fact 118 = .ok (.iaload, 1) := by decide +kernel
theorem dX11_fact_119 : decode cX11_fact 119 = .ok (.iload_n 1, 1) := by decide +kernel
theorem dX11_fact_120 : decode cX11_fact 120 = .ok (.invokestatic 251, 3) := by decide +kernel
theorem dX11_fact_123 : decode cX11_fact 123 = .ok (.ireturn, 1) := by decide +kernel
theorem dX11_fact_124 : decode cX11_fact 124 = .ok (.aload_n 0, 1) := by decide +kernel
theorem dX11_fact_125 : decode cX11_fact 125 = .ok (.getfield 43, 3) := by decide +kernel
theorem dX11_fact_128 : decode cX11_fact 128 = .ok (.getfield 148, 3) := by decide +kernel
theorem dX11_fact_131 : decode cX11_fact 131 = .ok (.iload_n 2, 1) := by decide +kernel
theorem dX11_fact_132 : decode cX11_fact 132 = .ok (.iaload, 1) := by decide +kernel
theorem dX11_fact_133 : decode cX11_fact 133 = .ok (.iload_n 1, 1) := by decide +kernel
theorem dX11_fact_134 : decode cX11_fact 134 = .ok (.invokestatic 251, 3) := by decide +kernel
theorem dX11_fact_137 : decode cX11_fact 137 = .ok (.ireturn, 1) := by decide +kernel
theorem dX11_fact_138 : decode cX11_fact 138 = .ok (.aload_n 0, 1) := by decide +kernel
theorem dX11_fact_139 : decode cX11_fact 139 = .ok (.getfield 43, 3) := by decide +kernel
theorem dX11_fact_142 : decode cX11_fact 142 = .ok (.getfield 261, 3) := by decide +kernel
theorem dX11_fact_145 : decode cX11_fact 145 = .ok (.iload_n 2, 1) := by decide +kernel
theorem dX11_fact_146 : decode cX11_fact 146 = .ok (.iaload, 1) := by decide +kernel
theorem dX11_fact_147 : decode cX11_fact 147 = .ok (.iload_n 1, 1) := by decide +kernel
theorem dX11_fact_148 : decode cX11_fact 148 = .ok (.invokestatic 251, 3) := by decide +kernel
theorem dX11_fact_151 : decode cX11_fact 151 = .ok (.ireturn, 1) := by decide +kernel
theorem dX11_fact_152 : decode cX11_fact 152 = .ok (.aload_n 0, 1) := by decide +kernel
theorem dX11_fact_153 : decode cX11_fact 153 = .ok (.getfield 43, 3) := by decide +kernel
theorem dX11_fact_156 : decode cX11_fact 156 = .ok (.getfield 142, 3) := by decide +kernel
theorem dX11_fact_159 : decode cX11_fact 159 = .ok (.iload_n 2, 1) := by decide +kernel
theorem dX11_fact_160 : decode cX11_fact 160 = .ok (.iaload, 1) := by decide +kernel
theorem dX11_fact_161 : decode cX11_fact 161 = .ok (.iload_n 1, 1) := by decide +kernel
theorem dX11_fact_162 : decode cX11_fact 162 = .ok (.invokestatic 251, 3) := by decide +kernel
theorem dX11_fact_165 : decode cX11_fact 165 = .ok (.ireturn, 1) := by decide +kernel
theorem dX11_fact_166 : decode cX11_fact 166 = .ok (.aload_n 0, 1) := by decide +kernel
theorem dX11_fact_167 : decode cX11_fact 167 = .ok (.getfield 43, 3) := by decide +kernel
theorem dX11_fact_170 : decode cX11_fact 170 = .ok (.getfield 145, 3) := by decide +kernel
theorem dX11_fact_173 : decode cX11_fact 173 = .ok (.iload_n 2, 1) := by decide +kernel
theorem dX11_fact_174 : decode cX11_fact 174 = .ok (.iaload, 1) := by decide +kernel
theorem dX11_fact_175 : decode cX11_fact 175 = .ok (.iload_n 1, 1) := by decide +kernel
theorem dX11_fact_176 : decode cX11_fact 176 = .ok (.invokestatic 251, 3) := by decide +kernel
theorem dX11_fact_179 : decode cX11_fact 179 = .ok (.ireturn, 1) := by decide +kernel
theorem dX11_fact_180 : decode cX11_fact 180 = .ok (.iconst (-1), 1) := by decide +kernel
theorem dX11_fact_181 : decode cX11_fact 181 = .ok (.ireturn, 1) := by decide +kernel
theorem dX11_placed_0 : decode cX11_placed 0 = .ok (.aload_n 0, 1) := by decide +kernel
theorem dX11_placed_1 : decode cX11_placed 1 = .ok (.iload_n 1, 1) := by decide +kernel
theorem dX11_placed_2 : decode cX11_placed 2 = .ok (.invokevirtual 248, 3) := by decide +kernel
theorem dX11_placed_5 : decode cX11_placed 5 = .ok (.ifCond .eq 22, 3) := by decide +kernel
theorem dX11_placed_8 : decode cX11_placed 8 = .ok (.aload_n 0, 1) := by decide +kernel
theorem dX11_placed_9 : decode cX11_placed 9 = .ok (.getfield 36, 3) := by decide +kernel
theorem dX11_placed_12 : decode cX11_placed 12 = .ok (.iload_n 2, 1) := by decide +kernel
theorem dX11_placed_13 : decode cX11_placed 13 = .ok (.invokevirtual 198, 3) := by decide +kernel
theorem dX11_placed_16 : decode cX11_placed 16 = .ok (.ifCond .eq 11, 3) := by decide +kernel
theorem dX11_placed_19 : decode cX11_placed 19 = .ok (.aload_n 0, 1) := by decide +kernel
theorem dX11_placed_20 : decode cX11_placed 20 = .ok (.iload_n 3, 1) := by decide +kernel
theorem dX11_placed_21 : decode cX11_placed 21 = .ok (.invokevirtual 264, 3) := by decide +kernel
theorem dX11_placed_24 : decode cX11_placed 24 = .ok (.ifCond .ne 5, 3) := by decide +kernel
theorem dX11_placed_27 : decode cX11_placed 27 = .ok (.iconst (-1), 1) := by decide +kernel
theorem dX11_placed_28 : decode cX11_placed 28 = .ok (.ireturn, 1) := by decide +kernel
theorem dX11_placed_29 : decode cX11_placed 29 = .ok (.aload_n 0, 1) := by decide +kernel
theorem dX11_placed_30 : decode cX11_placed 30 = .ok (.iload_n 3, 1) := by decide +kernel
theorem dX11_placed_31 : decode cX11_placed 31 = .ok (.invokevirtual 267, 3) := by decide +kernel
theorem dX11_placed_34 : decode cX11_placed 34 = .ok (.astore 5, 2) := by decide +kernel
theorem dX11_placed_36 : decode cX11_placed 36 = .ok (.iload 4, 2) := by decide +kernel
theorem dX11_placed_38 : decode cX11_placed 38 = .ok (.tableswitch 62 0 2 #[26, 38, 50], 26) := by decide +kernel
theorem dX11_placed_64 : decode cX11_placed 64 = .ok (.aload 5, 2) := by decide +kernel
theorem dX11_placed_66 : decode cX11_placed 66 = .ok (.getfield 271, 3) := by decide +kernel
theorem dX11_placed_69 : decode cX11_placed 69 = .ok (.iload_n 2, 1) := by decide +kernel
theorem dX11_placed_70 : decode cX11_placed 70 = .ok (.iaload, 1) := by decide +kernel
theorem dX11_placed_71 : decode cX11_placed 71 = .ok (.iload_n 1, 1) := by decide +kernel
theorem dX11_placed_72 : decode cX11_placed 72 = .ok (.invokestatic 251, 3) := by decide +kernel
theorem dX11_placed_75 : decode cX11_placed 75 = .ok (.ireturn, 1) := by decide +kernel
theorem dX11_placed_76 : decode cX11_placed 76 = .ok (.aload 5, 2) := by decide +kernel
theorem dX11_placed_78 : decode cX11_placed 78 = .ok (.getfield 274, 3) := by decide +kernel
theorem dX11_placed_81 : decode cX11_placed 81 = .ok (.iload_n 2, 1) := by decide +kernel
theorem dX11_placed_82 : decode cX11_placed 82 = .ok (.iaload, 1) := by decide +kernel
theorem dX11_placed_83 : decode cX11_placed 83 = .ok (.iload_n 1, 1) := by decide +kernel
theorem dX11_placed_84 : decode cX11_placed 84 = .ok (.invokestatic 251, 3) := by decide +kernel
theorem dX11_placed_87 : decode cX11_placed 87 = .ok (.ireturn, 1) := by decide +kernel
theorem dX11_placed_88 : decode cX11_placed 88 = .ok (.aload 5, 2) := by decide +kernel
theorem dX11_placed_90 : decode cX11_placed 90 = .ok (.getfield 277, 3) := by decide +kernel
theorem dX11_placed_93 : decode cX11_placed 93 = .ok (.iload_n 2, 1) := by decide +kernel
theorem dX11_placed_94 : decode cX11_placed 94 = .ok (.iaload, 1) := by decide +kernel
theorem dX11_placed_95 : decode cX11_placed 95 = .ok (.iload_n 1, 1) := by decide +kernel
theorem dX11_placed_96 : decode cX11_placed 96 = .ok (.invokestatic 251, 3) := by decide +kernel
theorem dX11_placed_99 : decode cX11_placed 99 = .ok (.ireturn, 1) := by decide +kernel
theorem dX11_placed_100 : decode cX11_placed 100 = .ok (.iconst (-1), 1) := by decide +kernel
theorem dX11_placed_101 : decode cX11_placed 101 = .ok (.ireturn, 1) := by decide +kernel
theorem dX11_placement_0 : decode cX11_placement 0 = .ok (.aload_n 0, 1) := by decide +kernel
theorem dX11_placement_1 : decode cX11_placement 1 = .ok (.iload_n 2, 1) := by decide +kernel
theorem dX11_placement_2 : decode cX11_placement 2 = .ok (.invokevirtual 264, 3) := by decide +kernel
theorem dX11_placement_5 : decode cX11_placement 5 = .ok (.ifCond .eq 22, 3) := by decide +kernel
theorem dX11_placement_8 : decode cX11_placement 8 = .ok (.iload_n 1, 1) := by decide +kernel
theorem dX11_placement_9 : decode cX11_placement 9 = .ok (.iconst (-1), 1) := by decide +kernel
theorem dX11_placement_10 : decode cX11_placement 10 = .ok (.if_icmp .eq 19, 3) := by decide +kernel
theorem dX11_placement_13 : decode cX11_placement 13 = .ok (.aload_n 0, 1) := by decide +kernel
theorem dX11_placement_14 : decode cX11_placement 14 = .ok (.getfield 36, 3) := by decide +kernel
theorem dX11_placement_17 : decode cX11_placement 17 = .ok (.getfield 175, 3) := by decide +kernel
theorem dX11_placement_20 : decode cX11_placement 20 = .ok (.iload_n 1, 1) := by decide +kernel
theorem dX11_placement_21 : decode cX11_placement 21 = .ok (.invokevirtual 226, 3) := by decide +kernel
theorem dX11_placement_24 : decode cX11_placement 24 = .ok (.ifCond .ne 5, 3) := by decide +kernel
theorem dX11_placement_27 : decode cX11_placement 27 = .ok (.iconst (-1), 1) := by decide +kernel
theorem dX11_placement_28 : decode cX11_placement 28 = .ok (.ireturn, 1) := by decide +kernel
theorem dX11_placement_29 : decode cX11_placement 29 = .ok (.aload_n 0, 1) := by decide +kernel
theorem dX11_placement_30 : decode cX11_placement 30 = .ok (.iload_n 2, 1) := by decide +kernel
theorem dX11_placement_31 : decode cX11_placement 31 = .ok (.invokevirtual 267, 3) := by decide +kernel
theorem dX11_placement_34 : decode cX11_placement 34 = .ok (.astore 4, 2) := by decide +kernel
theorem dX11_placement_36 : decode cX11_placement 36 = .ok (.iload_n 3, 1) := by decide +kernel
theorem dX11_placement_37 : decode cX11_placement 37 = .ok (.tableswitch 98 0 3 #[31, 42, 53, 64], 31) := by decide +kernel
theorem dX11_placement_68 : decode cX11_placement 68 = .ok (.aload_n 0, 1) := by decide +kernel
theorem dX11_placement_69 : decode cX11_placement 69 = .ok (.aload 4, 2) := by decide +kernel
theorem dX11_placement_71 : decode cX11_placement 71 = .ok (.getfield 271, 3) := by decide +kernel
theorem dX11_placement_74 : decode cX11_placement 74 = .ok (.iload_n 1, 1) := by decide +kernel
theorem dX11_placement_75 : decode cX11_placement 75 = .ok (.invokevirtual 280, 3) := by decide +kernel
theorem dX11_placement_78 : decode cX11_placement 78 = .ok (.ireturn, 1) := by decide +kernel
theorem dX11_placement_79 : decode cX11_placement 79 = .ok (.aload_n 0, 1) := by decide +kernel
theorem dX11_placement_80 : decode cX11_placement 80 = .ok (.aload 4, 2) := by decide +kernel
theorem dX11_placement_82 : decode cX11_placement 82 = .ok (.getfield 274, 3) := by decide +kernel
theorem dX11_placement_85 : decode cX11_placement 85 = .ok (.iload_n 1, 1) := by decide +kernel
theorem dX11_placement_86 : decode cX11_placement 86 = .ok (.invokevirtual 280, 3) := by decide +kernel
theorem dX11_placement_89 : decode cX11_placement 89 = .ok (.ireturn, 1) := by decide +kernel
theorem dX11_placement_90 : decode cX11_placement 90 = .ok (.aload_n 0, 1) := by decide +kernel
theorem dX11_placement_91 : decode cX11_placement 91 = .ok (.aload 4, 2) := by decide +kernel
theorem dX11_placement_93 : decode cX11_placement 93 = .ok (.getfield 277, 3) := by decide +kernel
theorem dX11_placement_96 : decode cX11_placement 96 = .ok (.iload_n 1, 1) := by decide +kernel
theorem dX11_placement_97 : decode cX11_placement 97 = .ok (.invokevirtual 280, 3) := by decide +kernel
theorem dX11_placement_100 : decode cX11_placement 100 = .ok (.ireturn, 1) := by decide +kernel
theorem dX11_placement_101 : decode cX11_placement 101 = .ok (.iload_n 1, 1) := by decide +kernel
theorem dX11_placement_102 : decode cX11_placement 102 = .ok (.iconst (-1), 1) := by decide +kernel
theorem dX11_placement_103 : decode cX11_placement 103 = .ok (.if_icmp .ne 21, 3) := by decide +kernel
theorem dX11_placement_106 : decode cX11_placement 106 = .ok (.aload 4, 2) := by decide +kernel
theorem dX11_placement_108 : decode cX11_placement 108 = .ok (.aload_n 0, 1) := by decide +kernel
theorem dX11_placement_109 : decode cX11_placement 109 = .ok (.getfield 36, 3) := by decide +kernel
theorem dX11_placement_112 : decode cX11_placement 112 = .ok (.getfield 175, 3) := by decide +kernel
theorem dX11_placement_115 : decode cX11_placement 115 = .ok (.getfield 179, 3) := by decide +kernel
theorem dX11_placement_118 : decode cX11_placement 118 = .ok (.invokevirtual 283, 3) := by decide +kernel
theorem dX11_placement_121 : decode cX11_placement 121 = .ok (.goto 13, 3) := by decide +kernel
theorem dX11_placement_124 : decode cX11_placement 124 = .ok (.aload 4, 2) := by decide +kernel
theorem dX11_placement_126 : decode cX11_placement 126 = .ok (.getfield 286, 3) := by decide +kernel
theorem dX11_placement_129 : decode cX11_placement 129 = .ok (.iload_n 1, 1) := by decide +kernel
theorem dX11_placement_130 : decode cX11_placement 130 = .ok (.iaload, 1) := by decide +kernel
theorem dX11_placement_131 : decode cX11_placement 131 = .ok (.invokestatic 289, 3) := by decide +kernel
theorem dX11_placement_134 : decode cX11_placement 134 = .ok (.ireturn, 1) := by decide +kernel
theorem dX11_placement_135 : decode cX11_placement 135 = .ok (.iconst (-1), 1) := by decide +kernel
theorem dX11_placement_136 : decode cX11_placement 136 = .ok (.ireturn, 1) := by decide +kernel
theorem dX11_countIn_0 : decode cX11_countIn 0 = .ok (.iload_n 2, 1) := by decide +kernel
theorem dX11_countIn_1 : decode cX11_countIn 1 = .ok (.iconst (-1), 1) := by decide +kernel
theorem dX11_countIn_2 : decode cX11_countIn 2 = .ok (.if_icmp .ne 14, 3) := by decide +kernel
theorem dX11_countIn_5 : decode cX11_countIn 5 = .ok (.aload_n 0, 1) := by decide +kernel
theorem dX11_countIn_6 : decode cX11_countIn 6 = .ok (.getfield 36, 3) := by decide +kernel
theorem dX11_countIn_9 : decode cX11_countIn 9 = .ok (.aload_n 1, 1) := by decide +kernel
theorem dX11_countIn_10 : decode cX11_countIn 10 = .ok (.invokevirtual 294, 3) := by decide +kernel
theorem dX11_countIn_13 : decode cX11_countIn 13 = .ok (.goto 14, 3) := by decide +kernel
theorem dX11_countIn_16 : decode cX11_countIn 16 = .ok (.aload_n 0, 1) := by decide +kernel
theorem dX11_countIn_17 : decode cX11_countIn 17 = .ok (.getfield 36, 3) := by decide +kernel
theorem dX11_countIn_20 : decode cX11_countIn 20 = .ok (.aload_n 1, 1) := by decide +kernel
theorem dX11_countIn_21 : decode cX11_countIn 21 = .ok (.iconst 1, 1) := by decide +kernel
theorem dX11_countIn_22 : decode cX11_countIn 22 = .ok (.iload_n 2, 1) := by decide +kernel
theorem dX11_countIn_23 : decode cX11_countIn 23 = .ok (.ishl, 1) := by decide +kernel
theorem dX11_countIn_24 : decode cX11_countIn 24 = .ok (.invokevirtual 241, 3) := by decide +kernel
theorem dX11_countIn_27 : decode cX11_countIn 27 = .ok (.ireturn, 1) := by decide +kernel
theorem dX11_shared_0 : decode cX11_shared 0 = .ok (.aload_n 0, 1) := by decide +kernel
theorem dX11_shared_1 : decode cX11_shared 1 = .ok (.iload_n 2, 1) := by decide +kernel
theorem dX11_shared_2 : decode cX11_shared 2 = .ok (.invokevirtual 264, 3) := by decide +kernel
theorem dX11_shared_5 : decode cX11_shared 5 = .ok (.ifCond .ne 5, 3) := by decide +kernel
theorem dX11_shared_8 : decode cX11_shared 8 = .ok (.iconst (-1), 1) := by decide +kernel
theorem dX11_shared_9 : decode cX11_shared 9 = .ok (.ireturn, 1) := by decide +kernel
theorem dX11_shared_10 : decode cX11_shared 10 = .ok (.aload_n 0, 1) := by decide +kernel
theorem dX11_shared_11 : decode cX11_shared 11 = .ok (.iload_n 2, 1) := by decide +kernel
theorem dX11_shared_12 : decode cX11_shared 12 = .ok (.invokevirtual 267, 3) := by decide +kernel
theorem dX11_shared_15 : decode cX11_shared 15 = .ok (.astore_n 3, 1) := by decide +kernel
theorem dX11_shared_16 : decode cX11_shared 16 = .ok (.iload_n 1, 1) := by decide +kernel
theorem dX11_shared_17 : decode cX11_shared 17 = .ok (.iconst (-1), 1) := by decide +kernel
theorem dX11_shared_18 : decode cX11_shared 18 = .ok (.if_icmp .ne 8, 3) := by decide +kernel
theorem dX11_shared_21 : decode cX11_shared 21 = .ok (.aload_n 3, 1) := by decide +kernel
theorem dX11_shared_22 : decode cX11_shared 22 = .ok (.getfield 298, 3) := by decide +kernel
theorem dX11_shared_25 : decode cX11_shared 25 = .ok (.ireturn, 1) := by decide +kernel
theorem dX11_shared_26 : decode cX11_shared 26 = .ok (.aload_n 0, 1) := by decide +kernel
theorem dX11_shared_27 : decode cX11_shared 27 = .ok (.getfield 36, 3) := by decide +kernel
theorem dX11_shared_30 : decode cX11_shared 30 = .ok (.getfield 175, 3) := by decide +kernel
theorem dX11_shared_33 : decode cX11_shared 33 = .ok (.iload_n 1, 1) := by decide +kernel
theorem dX11_shared_34 : decode cX11_shared 34 = .ok (.invokevirtual 226, 3) := by decide +kernel
theorem dX11_shared_37 : decode cX11_shared 37 = .ok (.ifCond .eq 12, 3) := by decide +kernel
theorem dX11_shared_40 : decode cX11_shared 40 = .ok (.aload_n 3, 1) := by decide +kernel
theorem dX11_shared_41 : decode cX11_shared 41 = .ok (.getfield 301, 3) := by decide +kernel
theorem dX11_shared_44 : decode cX11_shared 44 = .ok (.iload_n 1, 1) := by decide +kernel
theorem dX11_shared_45 : decode cX11_shared 45 = .ok (.iaload, 1) := by decide +kernel
theorem dX11_shared_46 : decode cX11_shared 46 = .ok (.goto 4, 3) := by decide +kernel
theorem dX11_shared_49 : decode cX11_shared 49 = .ok (.iconst (-1), 1) := by decide +kernel
theorem dX11_shared_50 : decode cX11_shared 50 = .ok (.ireturn, 1) := by decide +kernel
theorem dX11_most_0 : decode cX11_most 0 = .ok (.aload_n 0, 1) := by decide +kernel
theorem dX11_most_1 : decode cX11_most 1 = .ok (.iload_n 1, 1) := by decide +kernel
theorem dX11_most_2 : decode cX11_most 2 = .ok (.invokevirtual 264, 3) := by decide +kernel
theorem dX11_most_5 : decode cX11_most 5 = .ok (.ifCond .ne 5, 3) := by decide +kernel
theorem dX11_most_8 : decode cX11_most 8 = .ok (.iconst (-1), 1) := by decide +kernel
theorem dX11_most_9 : decode cX11_most 9 = .ok (.ireturn, 1) := by decide +kernel
theorem dX11_most_10 : decode cX11_most 10 = .ok (.aload_n 0, 1) := by decide +kernel
theorem dX11_most_11 : decode cX11_most 11 = .ok (.iload_n 1, 1) := by decide +kernel
theorem dX11_most_12 : decode cX11_most 12 = .ok (.invokevirtual 267, 3) := by decide +kernel
theorem dX11_most_15 : decode cX11_most 15 = .ok (.astore_n 2, 1) := by decide +kernel
theorem dX11_most_16 : decode cX11_most 16 = .ok (.iconst 0, 1) := by decide +kernel
theorem dX11_most_17 : decode cX11_most 17 = .ok (.istore_n 3, 1) := by decide +kernel
theorem dX11_most_18 : decode cX11_most 18 = .ok (.iconst 0, 1) := by decide +kernel
theorem dX11_most_19 : decode cX11_most 19 = .ok (.istore 4, 2) := by decide +kernel
theorem dX11_most_21 : decode cX11_most 21 = .ok (.iload 4, 2) := by decide +kernel
theorem dX11_most_23 : decode cX11_most 23 = .ok (.aload_n 0, 1) := by decide +kernel
theorem dX11_most_24 : decode cX11_most 24 = .ok (.getfield 36, 3) := by decide +kernel
theorem dX11_most_27 : decode cX11_most 27 = .ok (.getfield 120, 3) := by decide +kernel
theorem dX11_most_30 : decode cX11_most 30 = .ok (.if_icmp .ge 24, 3) := by decide +kernel
theorem dX11_most_33 : decode cX11_most 33 = .ok (.iload_n 3, 1) := by decide +kernel
theorem dX11_most_34 : decode cX11_most 34 = .ok (.aload_n 2, 1) := by decide +kernel
theorem dX11_most_35 : decode cX11_most 35 = .ok (.getfield 277, 3) := by decide +kernel
theorem dX11_most_38 : decode cX11_most 38 = .ok (.iload 4, 2) := by decide +kernel
theorem dX11_most_40 : decode cX11_most 40 = .ok (.iaload, 1) := by decide +kernel
theorem dX11_most_41 : decode cX11_most 41 = .ok (.invokestatic 289, 3) := by decide +kernel
theorem dX11_most_44 : decode cX11_most 44 = .ok (.invokestatic 304, 3) := by decide +kernel
theorem dX11_most_47 : decode cX11_most 47 = .ok (.istore_n 3, 1) := by decide +kernel
theorem dX11_most_48 : decode cX11_most 48 = .ok (.iinc 4 1, 3) := by decide +kernel
theorem dX11_most_51 : decode cX11_most 51 = .ok (.goto (-30), 3) := by decide +kernel
theorem dX11_most_54 : decode cX11_most 54 = .ok (.iload_n 3, 1) := by decide +kernel
theorem dX11_most_55 : decode cX11_most 55 = .ok (.ireturn, 1) := by decide +kernel
theorem dX11_letter_0 : decode cX11_letter 0 = .ok (.iload_n 1, 1) := by decide +kernel
theorem dX11_letter_1 : decode cX11_letter 1 = .ok (.ifCond .lt 9, 3) := by decide +kernel
theorem dX11_letter_4 : decode cX11_letter 4 = .ok (.iload_n 1, 1) := by decide +kernel
theorem dX11_letter_5 : decode cX11_letter 5 = .ok (.bipush 26, 2) := by decide +kernel
theorem dX11_letter_7 : decode cX11_letter 7 = .ok (.if_icmp .lt 5, 3) := by decide +kernel
theorem dX11_letter_10 : decode cX11_letter 10 = .ok (.iconst 0, 1) := by decide +kernel
theorem dX11_letter_11 : decode cX11_letter 11 = .ok (.ireturn, 1) := by decide +kernel
theorem dX11_letter_12 : decode cX11_letter 12 = .ok (.aload_n 0, 1) := by decide +kernel
theorem dX11_letter_13 : decode cX11_letter 13 = .ok (.getfield 67, 3) := by decide +kernel
theorem dX11_letter_16 : decode cX11_letter 16 = .ok (.iload_n 1, 1) := by decide +kernel
theorem dX11_letter_17 : decode cX11_letter 17 = .ok (.iaload, 1) := by decide +kernel
theorem dX11_letter_18 : decode cX11_letter 18 = .ok (.istore_n 3, 1) := by decide +kernel
theorem dX11_letter_19 : decode cX11_letter 19 = .ok (.aload_n 0, 1) := by decide +kernel
theorem dX11_letter_20 : decode cX11_letter 20 = .ok (.getfield 67, 3) := by decide +kernel
theorem dX11_letter_23 : decode cX11_letter 23 = .ok (.iload_n 1, 1) := by decide +kernel
theorem dX11_letter_24 : decode cX11_letter 24 = .ok (.iload_n 2, 1) := by decide +kernel
theorem dX11_letter_25 : decode cX11_letter 25 = .ok (.iastore, 1) := by decide +kernel
theorem dX11_letter_26 : decode cX11_letter 26 = .ok (.iload_n 3, 1) := by decide +kernel
theorem dX11_letter_27 : decode cX11_letter 27 = .ok (.ireturn, 1) := by decide +kernel
theorem dX11_run_0 : decode cX11_run 0 = .ok (.aload_n 0, 1) := by decide +kernel
theorem dX11_run_1 : decode cX11_run 1 = .ok (.iload_n 1, 1) := by decide +kernel
theorem dX11_run_2 : decode cX11_run 2 = .ok (.invokevirtual 309, 3) := by decide +kernel
theorem dX11_run_5 : decode cX11_run 5 = .ok (.ifCond .eq 12, 3) := by decide +kernel
theorem dX11_run_8 : decode cX11_run 8 = .ok (.iload_n 2, 1) := by decide +kernel
theorem dX11_run_9 : decode cX11_run 9 = .ok (.ifCond .lt 8, 3) := by decide +kernel
theorem dX11_run_12 : decode cX11_run 12 = .ok (.iload_n 2, 1) := by decide +kernel
theorem dX11_run_13 : decode cX11_run 13 = .ok (.iconst 4, 1) := by decide +kernel
theorem dX11_run_14 : decode cX11_run 14 = .ok (.if_icmp .le 5, 3) := by decide +kernel
theorem dX11_run_17 : decode cX11_run 17 = .ok (.iconst (-1), 1) := by decide +kernel
theorem dX11_run_18 : decode cX11_run 18 = .ok (.ireturn, 1) := by decide +kernel
theorem dX11_run_19 : decode cX11_run 19 = .ok (.aload_n 0, 1) := by decide +kernel
theorem dX11_run_20 : decode cX11_run 20 = .ok (.getfield 74, 3) := by decide +kernel
theorem dX11_run_23 : decode cX11_run 23 = .ok (.aload_n 0, 1) := by decide +kernel
theorem dX11_run_24 : decode cX11_run 24 = .ok (.getfield 36, 3) := by decide +kernel
theorem dX11_run_27 : decode cX11_run 27 = .ok (.aload_n 0, 1) := by decide +kernel
theorem dX11_run_28 : decode cX11_run 28 = .ok (.iload_n 1, 1) := by decide +kernel
theorem dX11_run_29 : decode cX11_run 29 = .ok (.invokevirtual 267, 3) := by decide +kernel
theorem dX11_run_32 : decode cX11_run 32 = .ok (.aload_n 0, 1) := by decide +kernel
theorem dX11_run_33 : decode cX11_run 33 = .ok (.getfield 67, 3) := by decide +kernel
theorem dX11_run_36 : decode cX11_run 36 = .ok (.invokevirtual 312, 3) := by decide +kernel
theorem dX11_run_39 : decode cX11_run 39 = .ok (.aload_n 0, 1) := by decide +kernel
theorem dX11_run_40 : decode cX11_run 40 = .ok (.iconst 1, 1) := by decide +kernel
theorem dX11_run_41 : decode cX11_run 41 = .ok (.putfield 168, 3) := by decide +kernel
theorem dX11_run_44 : decode cX11_run 44 = .ok (.iload_n 2, 1) := by decide +kernel
theorem dX11_run_45 : decode cX11_run 45 = .ok (.tableswitch 63 0 3 #[31, 39, 47, 55], 31) := by decide +kernel
theorem dX11_run_76 : decode cX11_run 76 = .ok (.aload_n 0, 1) := by decide +kernel
theorem dX11_run_77 : decode cX11_run 77 = .ok (.getfield 74, 3) := by decide +kernel
theorem dX11_run_80 : decode cX11_run 80 = .ok (.getfield 316, 3) := by decide +kernel
theorem dX11_run_83 : decode cX11_run 83 = .ok (.ireturn, 1) := by decide +kernel
theorem dX11_run_84 : decode cX11_run 84 = .ok (.aload_n 0, 1) := by decide +kernel
theorem dX11_run_85 : decode cX11_run 85 = .ok (.getfield 74, 3) := by decide +kernel
theorem dX11_run_88 : decode cX11_run 88 = .ok (.getfield 319, 3) := by decide +kernel
theorem dX11_run_91 : decode cX11_run 91 = .ok (.ireturn, 1) := by decide +kernel
theorem dX11_run_92 : decode cX11_run 92 = .ok (.aload_n 0, 1) := by decide +kernel
theorem dX11_run_93 : decode cX11_run 93 = .ok (.getfield 74, 3) := by decide +kernel
theorem dX11_run_96 : decode cX11_run 96 = .ok (.getfield 322, 3) := by decide +kernel
theorem dX11_run_99 : decode cX11_run 99 = .ok (.ireturn, 1) := by decide +kernel
theorem dX11_run_100 : decode cX11_run 100 = .ok (.aload_n 0, 1) := by decide +kernel
theorem dX11_run_101 : decode cX11_run 101 = .ok (.getfield 74, 3) := by decide +kernel
theorem dX11_run_104 : decode cX11_run 104 = .ok (.getfield 325, 3) := by decide +kernel
theorem dX11_run_107 : decode cX11_run 107 = .ok (.ireturn, 1) := by decide +kernel
theorem dX11_run_108 : decode cX11_run 108 = .ok (.aload_n 0, 1) := by decide +kernel
theorem dX11_run_109 : decode cX11_run 109 = .ok (.getfield 74, 3) := by decide +kernel
theorem dX11_run_112 : decode cX11_run 112 = .ok (.getfield 328, 3) := by decide +kernel
theorem dX11_run_115 : decode cX11_run 115 = .ok (.ireturn, 1) := by decide +kernel
theorem dX11_computed_0 : decode cX11_computed 0 = .ok (.aload_n 0, 1) := by decide +kernel
theorem dX11_computed_1 : decode cX11_computed 1 = .ok (.getfield 168, 3) := by decide +kernel
theorem dX11_computed_4 : decode cX11_computed 4 = .ok (.ifCond .eq 29, 3) := by decide +kernel
theorem dX11_computed_7 : decode cX11_computed 7 = .ok (.aload_n 0, 1) := by decide +kernel
theorem dX11_computed_8 : decode cX11_computed 8 = .ok (.getfield 36, 3) := by decide +kernel
theorem dX11_computed_11 : decode cX11_computed 11 = .ok (.getfield 175, 3) := by decide +kernel
theorem dX11_computed_14 : decode cX11_computed 14 = .ok (.iload_n 1, 1) := by decide +kernel
theorem dX11_computed_15 : decode cX11_computed 15 = .ok (.invokevirtual 226, 3) := by decide +kernel
theorem dX11_computed_18 : decode cX11_computed 18 = .ok (.ifCond .eq 15, 3) := by decide +kernel
theorem dX11_computed_21 : decode cX11_computed 21 = .ok (.aload_n 0, 1) := by decide +kernel
theorem dX11_computed_22 : decode cX11_computed 22 = .ok (.getfield 74, 3) := by decide +kernel
theorem dX11_computed_25 : decode cX11_computed 25 = .ok (.getfield 331, 3) := by decide +kernel
theorem dX11_computed_28 : decode cX11_computed 28 = .ok (.iload_n 1, 1) := by decide +kernel
theorem dX11_computed_29 : decode cX11_computed 29 = .ok (.iaload, 1) := by decide +kernel
theorem dX11_computed_30 : decode cX11_computed 30 = .ok (.goto 4, 3) := by decide +kernel
theorem dX11_computed_33 : decode cX11_computed 33 = .ok (.iconst (-1), 1) := by decide +kernel
theorem dX11_computed_34 : decode cX11_computed 34 = .ok (.ireturn, 1) := by decide +kernel
theorem dX11_output_0 : decode cX11_output 0 = .ok (.aload_n 0, 1) := by decide +kernel
theorem dX11_output_1 : decode cX11_output 1 = .ok (.getfield 168, 3) := by decide +kernel
theorem dX11_output_4 : decode cX11_output 4 = .ok (.ifCond .eq 36, 3) := by decide +kernel
theorem dX11_output_7 : decode cX11_output 7 = .ok (.iload_n 1, 1) := by decide +kernel
theorem dX11_output_8 : decode cX11_output 8 = .ok (.ifCond .lt 32, 3) := by decide +kernel
theorem dX11_output_11 : decode cX11_output 11 = .ok (.iload_n 1, 1) := by decide +kernel
theorem dX11_output_12 : decode cX11_output 12 = .ok (.bipush 40, 2) := by decide +kernel
theorem dX11_output_14 : decode cX11_output 14 = .ok (.if_icmp .ge 26, 3) := by decide +kernel
theorem dX11_output_17 : decode cX11_output 17 = .ok (.iload_n 1, 1) := by decide +kernel
theorem dX11_output_18 : decode cX11_output 18 = .ok (.aload_n 0, 1) := by decide +kernel
theorem dX11_output_19 : decode cX11_output 19 = .ok (.getfield 74, 3) := by decide +kernel
theorem dX11_output_22 : decode cX11_output 22 = .ok (.getfield 325, 3) := by decide +kernel
theorem dX11_output_25 : decode cX11_output 25 = .ok (.if_icmp .ge 15, 3) := by decide +kernel
theorem dX11_output_28 : decode cX11_output 28 = .ok (.aload_n 0, 1) := by decide +kernel
theorem dX11_output_29 : decode cX11_output 29 = .ok (.getfield 74, 3) := by decide +kernel
theorem dX11_output_32 : decode cX11_output 32 = .ok (.getfield 334, 3) := by decide +kernel
theorem dX11_output_35 : decode cX11_output 35 = .ok (.iload_n 1, 1) := by decide +kernel
theorem dX11_output_36 : decode cX11_output 36 = .ok (.iaload, 1) := by decide +kernel
theorem dX11_output_37 : decode cX11_output 37 = .ok (.goto 4, 3) := by decide +kernel
theorem dX11_output_40 : decode cX11_output 40 = .ok (.iconst 0, 1) := by decide +kernel
theorem dX11_output_41 : decode cX11_output 41 = .ok (.ireturn, 1) := by decide +kernel
theorem dX11_behind_0 : decode cX11_behind 0 = .ok (.aload_n 0, 1) := by decide +kernel
theorem dX11_behind_1 : decode cX11_behind 1 = .ok (.getfield 168, 3) := by decide +kernel
theorem dX11_behind_4 : decode cX11_behind 4 = .ok (.ifCond .eq 25, 3) := by decide +kernel
theorem dX11_behind_7 : decode cX11_behind 7 = .ok (.iload_n 1, 1) := by decide +kernel
theorem dX11_behind_8 : decode cX11_behind 8 = .ok (.ifCond .lt 21, 3) := by decide +kernel
theorem dX11_behind_11 : decode cX11_behind 11 = .ok (.iload_n 1, 1) := by decide +kernel
theorem dX11_behind_12 : decode cX11_behind 12 = .ok (.bipush 26, 2) := by decide +kernel
theorem dX11_behind_14 : decode cX11_behind 14 = .ok (.if_icmp .ge 15, 3) := by decide +kernel
theorem dX11_behind_17 : decode cX11_behind 17 = .ok (.aload_n 0, 1) := by decide +kernel
theorem dX11_behind_18 : decode cX11_behind 18 = .ok (.getfield 74, 3) := by decide +kernel
theorem dX11_behind_21 : decode cX11_behind 21 = .ok (.getfield 337, 3) := by decide +kernel
theorem dX11_behind_24 : decode cX11_behind 24 = .ok (.iload_n 1, 1) := by decide +kernel
theorem dX11_behind_25 : decode cX11_behind 25 = .ok (.iaload, 1) := by decide +kernel
theorem dX11_behind_26 : decode cX11_behind 26 = .ok (.goto 4, 3) := by decide +kernel
theorem dX11_behind_29 : decode cX11_behind 29 = .ok (.iconst 0, 1) := by decide +kernel
theorem dX11_behind_30 : decode cX11_behind 30 = .ok (.ireturn, 1) := by decide +kernel
theorem dX11_alike_0 : decode cX11_alike 0 = .ok (.aload_n 0, 1) := by decide +kernel
theorem dX11_alike_1 : decode cX11_alike 1 = .ok (.iload_n 1, 1) := by decide +kernel
theorem dX11_alike_2 : decode cX11_alike 2 = .ok (.invokevirtual 309, 3) := by decide +kernel
theorem dX11_alike_5 : decode cX11_alike 5 = .ok (.ifCond .ne 5, 3) := by decide +kernel
theorem dX11_alike_8 : decode cX11_alike 8 = .ok (.iconst (-1), 1) := by decide +kernel
theorem dX11_alike_9 : decode cX11_alike 9 = .ok (.ireturn, 1) := by decide +kernel
theorem dX11_alike_10 : decode cX11_alike 10 = .ok (.aload_n 0, 1) := by decide +kernel
theorem dX11_alike_11 : decode cX11_alike 11 = .ok (.getfield 78, 3) := by decide +kernel
theorem dX11_alike_14 : decode cX11_alike 14 = .ok (.aload_n 0, 1) := by decide +kernel
theorem dX11_alike_15 : decode cX11_alike 15 = .ok (.getfield 36, 3) := by decide +kernel
theorem dX11_alike_18 : decode cX11_alike 18 = .ok (.aload_n 0, 1) := by decide +kernel
theorem dX11_alike_19 : decode cX11_alike 19 = .ok (.getfield 57, 3) := by decide +kernel
theorem dX11_alike_22 : decode cX11_alike 22 = .ok (.aload_n 0, 1) := by decide +kernel
theorem dX11_alike_23 : decode cX11_alike 23 = .ok (.getfield 67, 3) := by decide +kernel
theorem dX11_alike_26 : decode cX11_alike 26 = .ok (.invokevirtual 312, 3) := by decide +kernel
theorem dX11_alike_29 : decode cX11_alike 29 = .ok (.aload_n 0, 1) := by decide +kernel
theorem dX11_alike_30 : decode cX11_alike 30 = .ok (.getfield 81, 3) := by decide +kernel
theorem dX11_alike_33 : decode cX11_alike 33 = .ok (.aload_n 0, 1) := by decide +kernel
theorem dX11_alike_34 : decode cX11_alike 34 = .ok (.getfield 36, 3) := by decide +kernel
theorem dX11_alike_37 : decode cX11_alike 37 = .ok (.aload_n 0, 1) := by decide +kernel
theorem dX11_alike_38 : decode cX11_alike 38 = .ok (.iload_n 1, 1) := by decide +kernel
theorem dX11_alike_39 : decode cX11_alike 39 = .ok (.invokevirtual 267, 3) := by decide +kernel
theorem dX11_alike_42 : decode cX11_alike 42 = .ok (.aload_n 0, 1) := by decide +kernel
theorem dX11_alike_43 : decode cX11_alike 43 = .ok (.getfield 67, 3) := by decide +kernel
theorem dX11_alike_46 : decode cX11_alike 46 = .ok (.invokevirtual 312, 3) := by decide +kernel
theorem dX11_alike_49 : decode cX11_alike 49 = .ok (.aload_n 0, 1) := by decide +kernel
theorem dX11_alike_50 : decode cX11_alike 50 = .ok (.getfield 78, 3) := by decide +kernel
theorem dX11_alike_53 : decode cX11_alike 53 = .ok (.aload_n 0, 1) := by decide +kernel
theorem dX11_alike_54 : decode cX11_alike 54 = .ok (.getfield 81, 3) := by decide +kernel
theorem dX11_alike_57 : decode cX11_alike 57 = .ok (.invokevirtual 340, 3) := by decide +kernel
theorem dX11_alike_60 : decode cX11_alike 60 = .ok (.invokestatic 194, 3) := by decide +kernel
theorem dX11_alike_63 : decode cX11_alike 63 = .ok (.ireturn, 1) := by decide +kernel
theorem dX11_live_0 : decode cX11_live 0 = .ok (.aload_n 0, 1) := by decide +kernel
theorem dX11_live_1 : decode cX11_live 1 = .ok (.getfield 36, 3) := by decide +kernel
theorem dX11_live_4 : decode cX11_live 4 = .ok (.iload_n 1, 1) := by decide +kernel
theorem dX11_live_5 : decode cX11_live 5 = .ok (.invokevirtual 198, 3) := by decide +kernel
theorem dX11_live_8 : decode cX11_live 8 = .ok (.ifCond .eq 15, 3) := by decide +kernel
theorem dX11_live_11 : decode cX11_live 11 = .ok (.aload_n 0, 1) := by decide +kernel
theorem dX11_live_12 : decode cX11_live 12 = .ok (.getfield 43, 3) := by decide +kernel
theorem dX11_live_15 : decode cX11_live 15 = .ok (.getfield 344, 3) := by decide +kernel
theorem dX11_live_18 : decode cX11_live 18 = .ok (.iload_n 1, 1) := by decide +kernel
theorem dX11_live_19 : decode cX11_live 19 = .ok (.iaload, 1) := by decide +kernel
theorem dX11_live_20 : decode cX11_live 20 = .ok (.goto 4, 3) := by decide +kernel
theorem dX11_live_23 : decode cX11_live 23 = .ok (.iconst (-1), 1) := by decide +kernel
theorem dX11_live_24 : decode cX11_live 24 = .ok (.ireturn, 1) := by decide +kernel
theorem dX11_dead_0 : decode cX11_dead 0 = .ok (.aload_n 0, 1) := by decide +kernel
theorem dX11_dead_1 : decode cX11_dead 1 = .ok (.getfield 36, 3) := by decide +kernel
theorem dX11_dead_4 : decode cX11_dead 4 = .ok (.iload_n 1, 1) := by decide +kernel
theorem dX11_dead_5 : decode cX11_dead 5 = .ok (.invokevirtual 198, 3) := by decide +kernel
theorem dX11_dead_8 : decode cX11_dead 8 = .ok (.ifCond .eq 19, 3) := by decide +kernel
theorem dX11_dead_11 : decode cX11_dead 11 = .ok (.aload_n 0, 1) := by decide +kernel
theorem dX11_dead_12 : decode cX11_dead 12 = .ok (.getfield 43, 3) := by decide +kernel
theorem dX11_dead_15 : decode cX11_dead 15 = .ok (.aload_n 0, 1) := by decide +kernel
theorem dX11_dead_16 : decode cX11_dead 16 = .ok (.getfield 36, 3) := by decide +kernel
theorem dX11_dead_19 : decode cX11_dead 19 = .ok (.iload_n 1, 1) := by decide +kernel
theorem dX11_dead_20 : decode cX11_dead 20 = .ok (.invokevirtual 347, 3) := by decide +kernel
theorem dX11_dead_23 : decode cX11_dead 23 = .ok (.invokestatic 194, 3) := by decide +kernel
theorem dX11_dead_26 : decode cX11_dead 26 = .ok (.ireturn, 1) := by decide +kernel
theorem dX11_dead_27 : decode cX11_dead 27 = .ok (.iload_n 1, 1) := by decide +kernel
theorem dX11_dead_28 : decode cX11_dead 28 = .ok (.iconst (-1), 1) := by decide +kernel
theorem dX11_dead_29 : decode cX11_dead 29 = .ok (.if_icmp .ne 10, 3) := by decide +kernel
theorem dX11_dead_32 : decode cX11_dead 32 = .ok (.aload_n 0, 1) := by decide +kernel
theorem dX11_dead_33 : decode cX11_dead 33 = .ok (.invokevirtual 123, 3) := by decide +kernel
theorem dX11_dead_36 : decode cX11_dead 36 = .ok (.ifCond .ne 6, 3) := by decide +kernel
theorem dX11_dead_39 : decode cX11_dead 39 = .ok (.bipush (-2), 2) := by decide +kernel
theorem dX11_dead_41 : decode cX11_dead 41 = .ok (.ireturn, 1) := by decide +kernel
theorem dX11_dead_42 : decode cX11_dead 42 = .ok (.iconst 0, 1) := by decide +kernel
theorem dX11_dead_43 : decode cX11_dead 43 = .ok (.istore_n 2, 1) := by decide +kernel
theorem dX11_dead_44 : decode cX11_dead 44 = .ok (.iconst 0, 1) := by decide +kernel
theorem dX11_dead_45 : decode cX11_dead 45 = .ok (.istore_n 3, 1) := by decide +kernel
theorem dX11_dead_46 : decode cX11_dead 46 = .ok (.iload_n 3, 1) := by decide +kernel
theorem dX11_dead_47 : decode cX11_dead 47 = .ok (.aload_n 0, 1) := by decide +kernel
theorem dX11_dead_48 : decode cX11_dead 48 = .ok (.getfield 36, 3) := by decide +kernel
theorem dX11_dead_51 : decode cX11_dead 51 = .ok (.getfield 120, 3) := by decide +kernel
theorem dX11_dead_54 : decode cX11_dead 54 = .ok (.if_icmp .ge 27, 3) := by decide +kernel
theorem dX11_dead_57 : decode cX11_dead 57 = .ok (.iload_n 2, 1) := by decide +kernel
theorem dX11_dead_58 : decode cX11_dead 58 = .ok (.aload_n 0, 1) := by decide +kernel
theorem dX11_dead_59 : decode cX11_dead 59 = .ok (.getfield 43, 3) := by decide +kernel
theorem dX11_dead_62 : decode cX11_dead 62 = .ok (.aload_n 0, 1) := by decide +kernel
theorem dX11_dead_63 : decode cX11_dead 63 = .ok (.getfield 36, 3) := by decide +kernel
theorem dX11_dead_66 : decode cX11_dead 66 = .ok (.iload_n 3, 1) := by decide +kernel
theorem dX11_dead_67 : decode cX11_dead 67 = .ok (.invokevirtual 347, 3) := by decide +kernel
theorem dX11_dead_70 : decode cX11_dead 70 = .ok (.invokestatic 194, 3) := by decide +kernel
theorem dX11_dead_73 : decode cX11_dead 73 = .ok (.iadd, 1) := by decide +kernel
theorem dX11_dead_74 : decode cX11_dead 74 = .ok (.istore_n 2, 1) := by decide +kernel
theorem dX11_dead_75 : decode cX11_dead 75 = .ok (.iinc 3 1, 3) := by decide +kernel
theorem dX11_dead_78 : decode cX11_dead 78 = .ok (.goto (-32), 3) := by decide +kernel
theorem dX11_dead_81 : decode cX11_dead 81 = .ok (.iload_n 2, 1) := by decide +kernel
theorem dX11_dead_82 : decode cX11_dead 82 = .ok (.ireturn, 1) := by decide +kernel
theorem dX11_again_0 : decode cX11_again 0 = .ok (.aload_n 0, 1) := by decide +kernel
theorem dX11_again_1 : decode cX11_again 1 = .ok (.iload_n 1, 1) := by decide +kernel
theorem dX11_again_2 : decode cX11_again 2 = .ok (.invokevirtual 248, 3) := by decide +kernel
theorem dX11_again_5 : decode cX11_again 5 = .ok (.ifCond .eq 12, 3) := by decide +kernel
theorem dX11_again_8 : decode cX11_again 8 = .ok (.iload_n 2, 1) := by decide +kernel
theorem dX11_again_9 : decode cX11_again 9 = .ok (.ifCond .lt 8, 3) := by decide +kernel
theorem dX11_again_12 : decode cX11_again 12 = .ok (.iload_n 2, 1) := by decide +kernel
theorem dX11_again_13 : decode cX11_again 13 = .ok (.iconst 1, 1) := by decide +kernel
theorem dX11_again_14 : decode cX11_again 14 = .ok (.if_icmp .le 5, 3) := by decide +kernel
theorem dX11_again_17 : decode cX11_again 17 = .ok (.iconst (-1), 1) := by decide +kernel
theorem dX11_again_18 : decode cX11_again 18 = .ok (.ireturn, 1) := by decide +kernel
theorem dX11_again_19 : decode cX11_again 19 = .ok (.iconst 0, 1) := by decide +kernel
theorem dX11_again_20 : decode cX11_again 20 = .ok (.istore_n 3, 1) := by decide +kernel
theorem dX11_again_21 : decode cX11_again 21 = .ok (.iconst 0, 1) := by decide +kernel
theorem dX11_again_22 : decode cX11_again 22 = .ok (.istore 4, 2) := by decide +kernel
theorem dX11_again_24 : decode cX11_again 24 = .ok (.iload 4, 2) := by decide +kernel
theorem dX11_again_26 : decode cX11_again 26 = .ok (.aload_n 0, 1) := by decide +kernel
theorem dX11_again_27 : decode cX11_again 27 = .ok (.getfield 36, 3) := by decide +kernel
theorem dX11_again_30 : decode cX11_again 30 = .ok (.getfield 120, 3) := by decide +kernel
theorem dX11_again_33 : decode cX11_again 33 = .ok (.if_icmp .ge 75, 3) := by decide +kernel
theorem dX11_again_36 : decode cX11_again 36 = .ok (.aload_n 0, 1) := by decide +kernel
theorem dX11_again_37 : decode cX11_again 37 = .ok (.getfield 43, 3) := by decide +kernel
theorem dX11_again_40 : decode cX11_again 40 = .ok (.getfield 351, 3) := by decide +kernel
theorem dX11_again_43 : decode cX11_again 43 = .ok (.iload 4, 2) := by decide +kernel
theorem dX11_again_45 : decode cX11_again 45 = .ok (.iaload, 1) := by decide +kernel
theorem dX11_again_46 : decode cX11_again 46 = .ok (.aload_n 0, 1) := by decide +kernel
theorem dX11_again_47 : decode cX11_again 47 = .ok (.getfield 43, 3) := by decide +kernel
theorem dX11_again_50 : decode cX11_again 50 = .ok (.getfield 258, 3) := by decide +kernel
theorem dX11_again_53 : decode cX11_again 53 = .ok (.iload 4, 2) := by decide +kernel
theorem dX11_again_55 : decode cX11_again 55 = .ok (.iaload, 1) := by decide +kernel
theorem dX11_again_56 : decode cX11_again 56 = .ok (.iconst (-1), 1) := by decide +kernel
theorem dX11_again_57 : decode cX11_again 57 = .ok (.ixor, 1) := by decide +kernel
theorem dX11_again_58 : decode cX11_again 58 = .ok (.iand, 1) := by decide +kernel
theorem dX11_again_59 : decode cX11_again 59 = .ok (.istore 5, 2) := by decide +kernel
theorem dX11_again_61 : decode cX11_again 61 = .ok (.iload_n 2, 1) := by decide +kernel
theorem dX11_again_62 : decode cX11_again 62 = .ok (.ifCond .ne 16, 3) := by decide +kernel
theorem dX11_again_65 : decode cX11_again 65 = .ok (.aload_n 0, 1) := by decide +kernel
theorem dX11_again_66 : decode cX11_again 66 = .ok (.getfield 43, 3) := by decide +kernel
theorem dX11_again_69 : decode cX11_again 69 = .ok (.getfield 258, 3) := by decide +kernel
theorem dX11_again_72 : decode cX11_again 72 = .ok (.iload 4, 2) := by decide +kernel
theorem dX11_again_74 : decode cX11_again 74 = .ok (.iaload, 1) := by decide +kernel
theorem dX11_again_75 : decode cX11_again 75 = .ok (.goto 5, 3) := by decide +kernel
theorem dX11_again_78 : decode cX11_again 78 = .ok (.iload 5, 2) := by decide +kernel
theorem dX11_again_80 : decode cX11_again 80 = .ok (.istore 6, 2) := by decide +kernel
theorem dX11_again_82 : decode cX11_again 82 = .ok (.iload_n 3, 1) := by decide +kernel
theorem dX11_again_83 : decode cX11_again 83 = .ok (.iload 6, 2) := by decide +kernel
theorem dX11_again_85 : decode cX11_again 85 = .ok (.aload_n 0, 1) := by decide +kernel
theorem dX11_again_86 : decode cX11_again 86 = .ok (.getfield 43, 3) := by decide +kernel
theorem dX11_again_89 : decode cX11_again 89 = .ok (.getfield 151, 3) := by decide +kernel
theorem dX11_again_92 : decode cX11_again 92 = .ok (.iload 4, 2) := by decide +kernel
theorem dX11_again_94 : decode cX11_again 94 = .ok (.iaload, 1) := by decide +kernel
theorem dX11_again_95 : decode cX11_again 95 = .ok (.iand, 1) := by decide +kernel
theorem dX11_again_96 : decode cX11_again 96 = .ok (.iload_n 1, 1) := by decide +kernel
theorem dX11_again_97 : decode cX11_again 97 = .ok (.invokestatic 251, 3) := by decide +kernel
theorem dX11_again_100 : decode cX11_again 100 = .ok (.iadd, 1) := by decide +kernel
theorem dX11_again_101 : decode cX11_again 101 = .ok (.istore_n 3, 1) := by decide +kernel
theorem dX11_again_102 : decode cX11_again 102 = .ok (.iinc 4 1, 3) := by decide +kernel
theorem dX11_again_105 : decode cX11_again 105 = .ok (.goto (-81), 3) := by decide +kernel
theorem dX11_again_108 : decode cX11_again 108 = .ok (.iload_n 3, 1) := by decide +kernel
theorem dX11_again_109 : decode cX11_again 109 = .ok (.ireturn, 1) := by decide +kernel
theorem dX11_over_0 : decode cX11_over 0 = .ok (.aload_n 0, 1) := by decide +kernel
theorem dX11_over_1 : decode cX11_over 1 = .ok (.getfield 36, 3) := by decide +kernel
theorem dX11_over_4 : decode cX11_over 4 = .ok (.iload_n 1, 1) := by decide +kernel
theorem dX11_over_5 : decode cX11_over 5 = .ok (.invokevirtual 198, 3) := by decide +kernel
theorem dX11_over_8 : decode cX11_over 8 = .ok (.ifCond .eq 29, 3) := by decide +kernel
theorem dX11_over_11 : decode cX11_over 11 = .ok (.aload_n 0, 1) := by decide +kernel
theorem dX11_over_12 : decode cX11_over 12 = .ok (.getfield 36, 3) := by decide +kernel
theorem dX11_over_15 : decode cX11_over 15 = .ok (.iload_n 2, 1) := by decide +kernel
theorem dX11_over_16 : decode cX11_over 16 = .ok (.invokevirtual 198, 3) := by decide +kernel
theorem dX11_over_19 : decode cX11_over 19 = .ok (.ifCond .eq 18, 3) := by decide +kernel
theorem dX11_over_22 : decode cX11_over 22 = .ok (.aload_n 0, 1) := by decide +kernel
theorem dX11_over_23 : decode cX11_over 23 = .ok (.getfield 50, 3) := by decide +kernel
theorem dX11_over_26 : decode cX11_over 26 = .ok (.iload_n 1, 1) := by decide +kernel
theorem dX11_over_27 : decode cX11_over 27 = .ok (.iload_n 2, 1) := by decide +kernel
theorem dX11_over_28 : decode cX11_over 28 = .ok (.invokevirtual 354, 3) := by decide +kernel
theorem dX11_over_31 : decode cX11_over 31 = .ok (.invokestatic 194, 3) := by decide +kernel
theorem dX11_over_34 : decode cX11_over 34 = .ok (.goto 4, 3) := by decide +kernel
theorem dX11_over_37 : decode cX11_over 37 = .ok (.iconst (-1), 1) := by decide +kernel
theorem dX11_over_38 : decode cX11_over 38 = .ok (.ireturn, 1) := by decide +kernel
theorem dX11_depth_0 : decode cX11_depth 0 = .ok (.aload_n 0, 1) := by decide +kernel
theorem dX11_depth_1 : decode cX11_depth 1 = .ok (.getfield 36, 3) := by decide +kernel
theorem dX11_depth_4 : decode cX11_depth 4 = .ok (.iload_n 1, 1) := by decide +kernel
theorem dX11_depth_5 : decode cX11_depth 5 = .ok (.invokevirtual 198, 3) := by decide +kernel
theorem dX11_depth_8 : decode cX11_depth 8 = .ok (.ifCond .eq 15, 3) := by decide +kernel
theorem dX11_depth_11 : decode cX11_depth 11 = .ok (.aload_n 0, 1) := by decide +kernel
theorem dX11_depth_12 : decode cX11_depth 12 = .ok (.getfield 50, 3) := by decide +kernel
theorem dX11_depth_15 : decode cX11_depth 15 = .ok (.getfield 358, 3) := by decide +kernel
theorem dX11_depth_18 : decode cX11_depth 18 = .ok (.iload_n 1, 1) := by decide +kernel
theorem dX11_depth_19 : decode cX11_depth 19 = .ok (.iaload, 1) := by decide +kernel
theorem dX11_depth_20 : decode cX11_depth 20 = .ok (.goto 4, 3) := by decide +kernel
theorem dX11_depth_23 : decode cX11_depth 23 = .ok (.iconst (-1), 1) := by decide +kernel
theorem dX11_depth_24 : decode cX11_depth 24 = .ok (.ireturn, 1) := by decide +kernel
theorem dX11_heads_0 : decode cX11_heads 0 = .ok (.aload_n 0, 1) := by decide +kernel
theorem dX11_heads_1 : decode cX11_heads 1 = .ok (.getfield 50, 3) := by decide +kernel
theorem dX11_heads_4 : decode cX11_heads 4 = .ok (.getfield 361, 3) := by decide +kernel
theorem dX11_heads_7 : decode cX11_heads 7 = .ok (.ireturn, 1) := by decide +kernel
theorem dX11_weight_0 : decode cX11_weight 0 = .ok (.aload_n 0, 1) := by decide +kernel
theorem dX11_weight_1 : decode cX11_weight 1 = .ok (.iload_n 1, 1) := by decide +kernel
theorem dX11_weight_2 : decode cX11_weight 2 = .ok (.invokevirtual 309, 3) := by decide +kernel
theorem dX11_weight_5 : decode cX11_weight 5 = .ok (.ifCond .ne 7, 3) := by decide +kernel
theorem dX11_weight_8 : decode cX11_weight 8 = .ok (.ldc2_w 364, 3) := by decide +kernel
theorem dX11_weight_11 : decode cX11_weight 11 = .ok (.lreturn, 1) := by decide +kernel
theorem dX11_weight_12 : decode cX11_weight 12 = .ok (.aload_n 0, 1) := by decide +kernel
theorem dX11_weight_13 : decode cX11_weight 13 = .ok (.iload_n 1, 1) := by decide +kernel
theorem dX11_weight_14 : decode cX11_weight 14 = .ok (.invokevirtual 267, 3) := by decide +kernel
theorem dX11_weight_17 : decode cX11_weight 17 = .ok (.astore_n 2, 1) := by decide +kernel
theorem dX11_weight_18 : decode cX11_weight 18 = .ok (.lconst 0, 1) := by decide +kernel
theorem dX11_weight_19 : decode cX11_weight 19 = .ok (.lstore_n 3, 1) := by decide +kernel
theorem dX11_weight_20 : decode cX11_weight 20 = .ok (.iconst 0, 1) := by decide +kernel
theorem dX11_weight_21 : decode cX11_weight 21 = .ok (.istore 5, 2) := by decide +kernel
theorem dX11_weight_23 : decode cX11_weight 23 = .ok (.iload 5, 2) := by decide +kernel
theorem dX11_weight_25 : decode cX11_weight 25 = .ok (.aload_n 0, 1) := by decide +kernel
theorem dX11_weight_26 : decode cX11_weight 26 = .ok (.getfield 36, 3) := by decide +kernel
theorem dX11_weight_29 : decode cX11_weight 29 = .ok (.getfield 120, 3) := by decide +kernel
theorem dX11_weight_32 : decode cX11_weight 32 = .ok (.if_icmp .ge 37, 3) := by decide +kernel
theorem dX11_weight_35 : decode cX11_weight 35 = .ok (.lload_n 3, 1) := by decide +kernel
theorem dX11_weight_36 : decode cX11_weight 36 = .ok (.aload_n 2, 1) := by decide +kernel
theorem dX11_weight_37 : decode cX11_weight 37 = .ok (.aload_n 0, 1) := by decide +kernel
theorem dX11_weight_38 : decode cX11_weight 38 = .ok (.getfield 36, 3) := by decide +kernel
theorem dX11_weight_41 : decode cX11_weight 41 = .ok (.iload 5, 2) := by decide +kernel
theorem dX11_weight_43 : decode cX11_weight 43 = .ok (.invokevirtual 366, 3) := by decide +kernel
theorem dX11_weight_46 : decode cX11_weight 46 = .ok (.i2l, 1) := by decide +kernel
theorem dX11_weight_47 : decode cX11_weight 47 = .ok (.aload_n 0, 1) := by decide +kernel
theorem dX11_weight_48 : decode cX11_weight 48 = .ok (.getfield 50, 3) := by decide +kernel
theorem dX11_weight_51 : decode cX11_weight 51 = .ok (.getfield 358, 3) := by decide +kernel
theorem dX11_weight_54 : decode cX11_weight 54 = .ok (.iload 5, 2) := by decide +kernel
theorem dX11_weight_56 : decode cX11_weight 56 = .ok (.iaload, 1) := by decide +kernel
theorem dX11_weight_57 : decode cX11_weight 57 = .ok (.invokestatic 370, 3) := by decide +kernel
theorem dX11_weight_60 : decode cX11_weight 60 = .ok (.lmul, 1) := by decide +kernel
theorem dX11_weight_61 : decode cX11_weight 61 = .ok (.ladd, 1) := by decide +kernel
theorem dX11_weight_62 : decode cX11_weight 62 = .ok (.lstore_n 3, 1) := by decide +kernel
theorem dX11_weight_63 : decode cX11_weight 63 = .ok (.iinc 5 1, 3) := by decide +kernel
theorem dX11_weight_66 : decode cX11_weight 66 = .ok (.goto (-43), 3) := by decide +kernel
theorem dX11_weight_69 : decode cX11_weight 69 = .ok (.lload_n 3, 1) := by decide +kernel
theorem dX11_weight_70 : decode cX11_weight 70 = .ok (.lreturn, 1) := by decide +kernel
theorem dX11_powerOfTen_0 : decode cX11_powerOfTen 0 = .ok (.lconst 1, 1) := by decide +kernel
theorem dX11_powerOfTen_1 : decode cX11_powerOfTen 1 = .ok (.lstore_n 1, 1) := by decide +kernel
theorem dX11_powerOfTen_2 : decode cX11_powerOfTen 2 = .ok (.iconst 0, 1) := by decide +kernel
theorem dX11_powerOfTen_3 : decode cX11_powerOfTen 3 = .ok (.istore_n 3, 1) := by decide +kernel
theorem dX11_powerOfTen_4 : decode cX11_powerOfTen 4 = .ok (.iload_n 3, 1) := by decide +kernel
theorem dX11_powerOfTen_5 : decode cX11_powerOfTen 5 = .ok (.iload_n 0, 1) := by decide +kernel
theorem dX11_powerOfTen_6 : decode cX11_powerOfTen 6 = .ok (.if_icmp .ge 20, 3) := by decide +kernel
theorem dX11_powerOfTen_9 : decode cX11_powerOfTen 9 = .ok (.iload_n 3, 1) := by decide +kernel
theorem dX11_powerOfTen_10 : decode cX11_powerOfTen 10 = .ok (.iconst 4, 1) := by decide +kernel
theorem dX11_powerOfTen_11 : decode cX11_powerOfTen 11 = .ok (.if_icmp .ge 15, 3) := by decide +kernel
theorem dX11_powerOfTen_14 : decode cX11_powerOfTen 14 = .ok (.lload_n 1, 1) := by decide +kernel
theorem dX11_powerOfTen_15 : decode cX11_powerOfTen 15 = .ok (.ldc2_w 374, 3) := by decide +kernel
theorem dX11_powerOfTen_18 : decode cX11_powerOfTen 18 = .ok (.lmul, 1) := by decide +kernel
theorem dX11_powerOfTen_19 : decode cX11_powerOfTen 19 = .ok (.lstore_n 1, 1) := by decide +kernel
theorem dX11_powerOfTen_20 : decode cX11_powerOfTen 20 = .ok (.iinc 3 1, 3) := by decide +kernel
theorem dX11_powerOfTen_23 : decode cX11_powerOfTen 23 = .ok (.goto (-19), 3) := by decide +kernel
theorem dX11_powerOfTen_26 : decode cX11_powerOfTen 26 = .ok (.lload_n 1, 1) := by decide +kernel
theorem dX11_powerOfTen_27 : decode cX11_powerOfTen 27 = .ok (.lreturn, 1) := by decide +kernel
theorem dX11_others_0 : decode cX11_others 0 = .ok (.aload_n 0, 1) := by decide +kernel
theorem dX11_others_1 : decode cX11_others 1 = .ok (.iload_n 1, 1) := by decide +kernel
theorem dX11_others_2 : decode cX11_others 2 = .ok (.invokevirtual 248, 3) := by decide +kernel
theorem dX11_others_5 : decode cX11_others 5 = .ok (.ifCond .eq 24, 3) := by decide +kernel
theorem dX11_others_8 : decode cX11_others 8 = .ok (.iload_n 2, 1) := by decide +kernel
theorem dX11_others_9 : decode cX11_others 9 = .ok (.ifCond .lt 20, 3) := by decide +kernel
theorem dX11_others_12 : decode cX11_others 12 = .ok (.iload_n 2, 1) := by decide +kernel
theorem dX11_others_13 : decode cX11_others 13 = .ok (.iconst 3, 1) := by decide +kernel
theorem dX11_others_14 : decode cX11_others 14 = .ok (.if_icmp .gt 15, 3) := by decide +kernel
theorem dX11_others_17 : decode cX11_others 17 = .ok (.aload_n 0, 1) := by decide +kernel
theorem dX11_others_18 : decode cX11_others 18 = .ok (.getfield 36, 3) := by decide +kernel
theorem dX11_others_21 : decode cX11_others 21 = .ok (.getfield 120, 3) := by decide +kernel
theorem dX11_others_24 : decode cX11_others 24 = .ok (.bipush 12, 2) := by decide +kernel
theorem dX11_others_26 : decode cX11_others 26 = .ok (.if_icmp .le 6, 3) := by decide +kernel
theorem dX11_others_29 : decode cX11_others 29 = .ok (.bipush (-2), 2) := by decide +kernel
theorem dX11_others_31 : decode cX11_others 31 = .ok (.ireturn, 1) := by decide +kernel
theorem dX11_others_32 : decode cX11_others 32 = .ok (.aload_n 0, 1) := by decide +kernel
theorem dX11_others_33 : decode cX11_others 33 = .ok (.getfield 94, 3) := by decide +kernel
theorem dX11_others_36 : decode cX11_others 36 = .ok (.aload_n 0, 1) := by decide +kernel
theorem dX11_others_37 : decode cX11_others 37 = .ok (.getfield 36, 3) := by decide +kernel
theorem dX11_others_40 : decode cX11_others 40 = .ok (.aload_n 0, 1) := by decide +kernel
theorem dX11_others_41 : decode cX11_others 41 = .ok (.getfield 43, 3) := by decide +kernel
theorem dX11_others_44 : decode cX11_others 44 = .ok (.iload_n 1, 1) := by decide +kernel
theorem dX11_others_45 : decode cX11_others 45 = .ok (.iload_n 2, 1) := by decide +kernel
theorem dX11_others_46 : decode cX11_others 46 = .ok (.invokevirtual 376, 3) := by decide +kernel
theorem dX11_others_49 : decode cX11_others 49 = .ok (.ireturn, 1) := by decide +kernel
theorem dX11_ways_0 : decode cX11_ways 0 = .ok (.aload_n 0, 1) := by decide +kernel
theorem dX11_ways_1 : decode cX11_ways 1 = .ok (.iload_n 1, 1) := by decide +kernel
theorem dX11_ways_2 : decode cX11_ways 2 = .ok (.invokevirtual 309, 3) := by decide +kernel
theorem dX11_ways_5 : decode cX11_ways 5 = .ok (.ifCond .eq 23, 3) := by decide +kernel
theorem dX11_ways_8 : decode cX11_ways 8 = .ok (.iload_n 2, 1) := by decide +kernel
theorem dX11_ways_9 : decode cX11_ways 9 = .ok (.iconst 1, 1) := by decide +kernel
theorem dX11_ways_10 : decode cX11_ways 10 = .ok (.if_icmp .lt 18, 3) := by decide +kernel
theorem dX11_ways_13 : decode cX11_ways 13 = .ok (.iload_n 2, 1) := by decide +kernel
theorem dX11_ways_14 : decode cX11_ways 14 = .ok (.bipush 60, 2) := by decide +kernel
theorem dX11_ways_16 : decode cX11_ways 16 = .ok (.if_icmp .gt 12, 3) := by decide +kernel
theorem dX11_ways_19 : decode cX11_ways 19 = .ok (.iload_n 3, 1) := by decide +kernel
theorem dX11_ways_20 : decode cX11_ways 20 = .ok (.ifCond .lt 8, 3) := by decide +kernel
theorem dX11_ways_23 : decode cX11_ways 23 = .ok (.iload_n 3, 1) := by decide +kernel
theorem dX11_ways_24 : decode cX11_ways 24 = .ok (.iconst 2, 1) := by decide +kernel
theorem dX11_ways_25 : decode cX11_ways 25 = .ok (.if_icmp .le 7, 3) := by decide +kernel
theorem dX11_ways_28 : decode cX11_ways 28 = .ok (.ldc2_w 364, 3) := by decide +kernel
theorem dX11_ways_31 : decode cX11_ways 31 = .ok (.lreturn, 1) := by decide +kernel
theorem dX11_ways_32 : decode cX11_ways 32 = .ok (.aload_n 0, 1) := by decide +kernel
theorem dX11_ways_33 : decode cX11_ways 33 = .ok (.getfield 87, 3) := by decide +kernel
theorem dX11_ways_36 : decode cX11_ways 36 = .ok (.aload_n 0, 1) := by decide +kernel
theorem dX11_ways_37 : decode cX11_ways 37 = .ok (.getfield 36, 3) := by decide +kernel
theorem dX11_ways_40 : decode cX11_ways 40 = .ok (.aload_n 0, 1) := by decide +kernel
theorem dX11_ways_41 : decode cX11_ways 41 = .ok (.iload_n 1, 1) := by decide +kernel
theorem dX11_ways_42 : decode cX11_ways 42 = .ok (.invokevirtual 267, 3) := by decide +kernel
theorem dX11_ways_45 : decode cX11_ways 45 = .ok (.iload_n 2, 1) := by decide +kernel
theorem dX11_ways_46 : decode cX11_ways 46 = .ok (.invokevirtual 380, 3) := by decide +kernel
theorem dX11_ways_49 : decode cX11_ways 49 = .ok (.iload_n 3, 1) := by decide +kernel
theorem dX11_ways_50 : decode cX11_ways 50 = .ok (.ifCond .ne 11, 3) := by decide +kernel
theorem dX11_ways_53 : decode cX11_ways 53 = .ok (.aload_n 0, 1) := by decide +kernel
theorem dX11_ways_54 : decode cX11_ways 54 = .ok (.getfield 87, 3) := by decide +kernel
theorem dX11_ways_57 : decode cX11_ways 57 = .ok (.getfield 383, 3) := by decide +kernel
theorem dX11_ways_60 : decode cX11_ways 60 = .ok (.lreturn, 1) := by decide +kernel
theorem dX11_ways_61 : decode cX11_ways 61 = .ok (.aload_n 0, 1) := by decide +kernel
theorem dX11_ways_62 : decode cX11_ways 62 = .ok (.getfield 87, 3) := by decide +kernel
theorem dX11_ways_65 : decode cX11_ways 65 = .ok (.getfield 383, 3) := by decide +kernel
theorem dX11_ways_68 : decode cX11_ways 68 = .ok (.lconst 0, 1) := by decide +kernel
theorem dX11_ways_69 : decode cX11_ways 69 = .ok (.lcmp, 1) := by decide +kernel
theorem dX11_ways_70 : decode cX11_ways 70 = .ok (.ifCond .ne 7, 3) := by decide +kernel
theorem dX11_ways_73 : decode cX11_ways 73 = .ok (.ldc2_w 364, 3) := by decide +kernel
theorem dX11_ways_76 : decode cX11_ways 76 = .ok (.lreturn, 1) := by decide +kernel
theorem dX11_ways_77 : decode cX11_ways 77 = .ok (.iload_n 3, 1) := by decide +kernel
theorem dX11_ways_78 : decode cX11_ways 78 = .ok (.iconst 1, 1) := by decide +kernel
theorem dX11_ways_79 : decode cX11_ways 79 = .ok (.if_icmp .ne 14, 3) := by decide +kernel
theorem dX11_ways_82 : decode cX11_ways 82 = .ok (.aload_n 0, 1) := by decide +kernel
theorem dX11_ways_83 : decode cX11_ways 83 = .ok (.getfield 87, 3) := by decide +kernel
theorem dX11_ways_86 : decode cX11_ways 86 = .ok (.getfield 387, 3) := by decide +kernel
theorem dX11_ways_89 : decode cX11_ways 89 = .ok (.i2l, 1) := by decide +kernel
theorem dX11_ways_90 : decode cX11_ways 90 = .ok (.goto 11, 3) := by decide +kernel
theorem dX11_ways_93 : decode cX11_ways 93 = .ok (.aload_n 0, 1) := by decide +kernel
theorem dX11_ways_94 : decode cX11_ways 94 = .ok (.getfield 87, 3) := by decide +kernel
theorem dX11_ways_97 : decode cX11_ways 97 = .ok (.getfield 390, 3) := by decide +kernel
theorem dX11_ways_100 : decode cX11_ways 100 = .ok (.i2l, 1) := by decide +kernel
theorem dX11_ways_101 : decode cX11_ways 101 = .ok (.lreturn, 1) := by decide +kernel
theorem dX11_write_0 : decode cX11_write 0 = .ok (.aload_n 0, 1) := by decide +kernel
theorem dX11_write_1 : decode cX11_write 1 = .ok (.getfield 36, 3) := by decide +kernel
theorem dX11_write_4 : decode cX11_write 4 = .ok (.iload_n 1, 1) := by decide +kernel
theorem dX11_write_5 : decode cX11_write 5 = .ok (.invokevirtual 198, 3) := by decide +kernel
theorem dX11_write_8 : decode cX11_write 8 = .ok (.ifCond .eq 11, 3) := by decide +kernel
theorem dX11_write_11 : decode cX11_write 11 = .ok (.aload_n 0, 1) := by decide +kernel
theorem dX11_write_12 : decode cX11_write 12 = .ok (.iload_n 2, 1) := by decide +kernel
theorem dX11_write_13 : decode cX11_write 13 = .ok (.invokevirtual 309, 3) := by decide +kernel
theorem dX11_write_16 : decode cX11_write 16 = .ok (.ifCond .ne 5, 3) := by decide +kernel
theorem dX11_write_19 : decode cX11_write 19 = .ok (.iconst (-1), 1) := by decide +kernel
theorem dX11_write_20 : decode cX11_write 20 = .ok (.ireturn, 1) := by decide +kernel
theorem dX11_write_21 : decode cX11_write 21 = .ok (.aload_n 0, 1) := by decide +kernel
theorem dX11_write_22 : decode cX11_write 22 = .ok (.iload_n 2, 1) := by decide +kernel
theorem dX11_write_23 : decode cX11_write 23 = .ok (.invokevirtual 267, 3) := by decide +kernel
theorem dX11_write_26 : decode cX11_write 26 = .ok (.astore_n 3, 1) := by decide +kernel
theorem dX11_write_27 : decode cX11_write 27 = .ok (.aload_n 0, 1) := by decide +kernel
theorem dX11_write_28 : decode cX11_write 28 = .ok (.getfield 19, 3) := by decide +kernel
theorem dX11_write_31 : decode cX11_write 31 = .ok (.iconst 0, 1) := by decide +kernel
theorem dX11_write_32 : decode cX11_write 32 = .ok (.invokevirtual 110, 3) := by decide +kernel
theorem dX11_write_35 : decode cX11_write 35 = .ok (.iconst 0, 1) := by decide +kernel
theorem dX11_write_36 : decode cX11_write 36 = .ok (.istore 4, 2) := by decide +kernel
theorem dX11_write_38 : decode cX11_write 38 = .ok (.iload 4, 2) := by decide +kernel
theorem dX11_write_40 : decode cX11_write 40 = .ok (.aload_n 0, 1) := by decide +kernel
theorem dX11_write_41 : decode cX11_write 41 = .ok (.getfield 36, 3) := by decide +kernel
theorem dX11_write_44 : decode cX11_write 44 = .ok (.getfield 175, 3) := by decide +kernel
theorem dX11_write_47 : decode cX11_write 47 = .ok (.getfield 179, 3) := by decide +kernel
theorem dX11_write_50 : decode cX11_write 50 = .ok (.if_icmp .ge 54, 3) := by decide +kernel
theorem dX11_write_53 : decode cX11_write 53 = .ok (.aload_n 3, 1) := by decide +kernel
theorem dX11_write_54 : decode cX11_write 54 = .ok (.getfield 271, 3) := by decide +kernel
theorem dX11_write_57 : decode cX11_write 57 = .ok (.iload_n 1, 1) := by decide +kernel
theorem dX11_write_58 : decode cX11_write 58 = .ok (.iaload, 1) := by decide +kernel
theorem dX11_write_59 : decode cX11_write 59 = .ok (.iload 4, 2) := by decide +kernel
theorem dX11_write_61 : decode cX11_write 61 = .ok (.invokestatic 251, 3) := by decide +kernel
theorem dX11_write_64 : decode cX11_write 64 = .ok (.iconst 1, 1) := by decide +kernel
theorem dX11_write_65 : decode cX11_write 65 = .ok (.if_icmp .ne 33, 3) := by decide +kernel
theorem dX11_write_68 : decode cX11_write 68 = .ok (.aload_n 0, 1) := by decide +kernel
theorem dX11_write_69 : decode cX11_write 69 = .ok (.iload 4, 2) := by decide +kernel
theorem dX11_write_71 : decode cX11_write 71 = .ok (.invokevirtual 393, 3) := by decide +kernel
theorem dX11_write_74 : decode cX11_write 74 = .ok (.aload_n 0, 1) := by decide +kernel
theorem dX11_write_75 : decode cX11_write 75 = .ok (.getfield 19, 3) := by decide +kernel
theorem dX11_write_78 : decode cX11_write 78 = .ok (.bipush 61, 2) := by decide +kernel
theorem dX11_write_80 : decode cX11_write 80 = .ok (.invokevirtual 396, 3) := by decide +kernel
theorem dX11_write_83 : decode cX11_write 83 = .ok (.aload_n 0, 1) := by decide +kernel
theorem dX11_write_84 : decode cX11_write 84 = .ok (.iload 4, 2) := by decide +kernel
theorem dX11_write_86 : decode cX11_write 86 = .ok (.invokevirtual 398, 3) := by decide +kernel
theorem dX11_write_89 : decode cX11_write 89 = .ok (.aload_n 0, 1) := by decide +kernel
theorem dX11_write_90 : decode cX11_write 90 = .ok (.getfield 19, 3) := by decide +kernel
theorem dX11_write_93 : decode cX11_write 93 = .ok (.bipush 59, 2) := by decide +kernel
theorem dX11_write_95 : decode cX11_write 95 = .ok (.invokevirtual 396, 3) := by decide +kernel
theorem dX11_write_98 : decode cX11_write 98 = .ok (.iinc 4 1, 3) := by decide +kernel
theorem dX11_write_101 : decode cX11_write 101 = .ok (.goto (-63), 3) := by decide +kernel
theorem dX11_write_104 : decode cX11_write 104 = .ok (.aload_n 0, 1) := by decide +kernel
theorem dX11_write_105 : decode cX11_write 105 = .ok (.iload_n 1, 1) := by decide +kernel
theorem dX11_write_106 : decode cX11_write 106 = .ok (.aload_n 3, 1) := by decide +kernel
theorem dX11_write_107 : decode cX11_write 107 = .ok (.getfield 274, 3) := by decide +kernel
theorem dX11_write_110 : decode cX11_write 110 = .ok (.iload_n 1, 1) := by decide +kernel
theorem dX11_write_111 : decode cX11_write 111 = .ok (.iaload, 1) := by decide +kernel
theorem dX11_write_112 : decode cX11_write 112 = .ok (.ifCond .eq 7, 3) := by decide +kernel
theorem dX11_write_115 : decode cX11_write 115 = .ok (.iconst 1, 1) := by decide +kernel
theorem dX11_write_116 : decode cX11_write 116 = .ok (.goto 4, 3) := by decide +kernel
theorem dX11_write_119 : decode cX11_write 119 = .ok (.iconst 0, 1) := by decide +kernel
theorem dX11_write_120 : decode cX11_write 120 = .ok (.invokevirtual 401, 3) := by decide +kernel
theorem dX11_write_123 : decode cX11_write 123 = .ok (.aload_n 0, 1) := by decide +kernel
theorem dX11_write_124 : decode cX11_write 124 = .ok (.getfield 19, 3) := by decide +kernel
theorem dX11_write_127 : decode cX11_write 127 = .ok (.invokevirtual 102, 3) := by decide +kernel
theorem dX11_write_130 : decode cX11_write 130 = .ok (.ireturn, 1) := by decide +kernel
theorem dX11_octet_0 : decode cX11_octet 0 = .ok (.aload_n 0, 1) := by decide +kernel
theorem dX11_octet_1 : decode cX11_octet 1 = .ok (.getfield 19, 3) := by decide +kernel
theorem dX11_octet_4 : decode cX11_octet 4 = .ok (.iload_n 1, 1) := by decide +kernel
theorem dX11_octet_5 : decode cX11_octet 5 = .ok (.invokevirtual 405, 3) := by decide +kernel
theorem dX11_octet_8 : decode cX11_octet 8 = .ok (.ireturn, 1) := by decide +kernel
theorem dX11_writeNode_0 : decode cX11_writeNode 0 = .ok (.aload_n 0, 1) := by decide +kernel
theorem dX11_writeNode_1 : decode cX11_writeNode 1 = .ok (.getfield 36, 3) := by decide +kernel
theorem dX11_writeNode_4 : decode cX11_writeNode 4 = .ok (.getfield 202, 3) := by decide +kernel
theorem dX11_writeNode_7 : decode cX11_writeNode 7 = .ok (.iload_n 1, 1) := by decide +kernel
theorem dX11_writeNode_8 : decode cX11_writeNode 8 = .ok (.iaload, 1) := by decide +kernel
theorem dX11_writeNode_9 : decode cX11_writeNode 9 = .ok (.istore_n 3, 1) := by decide +kernel
theorem dX11_writeNode_10 : decode cX11_writeNode 10 = .ok (.iload_n 3, 1) := by decide +kernel
theorem dX11_writeNode_11 : decode cX11_writeNode 11 = .ok (.ifCond .ne 4, 3) := by decide +kernel
theorem dX11_writeNode_14 : decode cX11_writeNode 14 = .ok (.return_, 1) := by decide +kernel
theorem dX11_writeNode_15 : decode cX11_writeNode 15 = .ok (.iload_n 3, 1) := by decide +kernel
theorem dX11_writeNode_16 : decode cX11_writeNode 16 = .ok (.iconst 1, 1) := by decide +kernel
theorem dX11_writeNode_17 : decode cX11_writeNode 17 = .ok (.if_icmp .eq 8, 3) := by decide +kernel
theorem dX11_writeNode_20 : decode cX11_writeNode 20 = .ok (.iload_n 3, 1) := by decide +kernel
theorem dX11_writeNode_21 : decode cX11_writeNode 21 = .ok (.iconst 2, 1) := by decide +kernel
theorem dX11_writeNode_22 : decode cX11_writeNode 22 = .ok (.if_icmp .ne 12, 3) := by decide +kernel
theorem dX11_writeNode_25 : decode cX11_writeNode 25 = .ok (.aload_n 0, 1) := by decide +kernel
theorem dX11_writeNode_26 : decode cX11_writeNode 26 = .ok (.iload_n 1, 1) := by decide +kernel
theorem dX11_writeNode_27 : decode cX11_writeNode 27 = .ok (.iload_n 2, 1) := by decide +kernel
theorem dX11_writeNode_28 : decode cX11_writeNode 28 = .ok (.invokevirtual 407, 3) := by decide +kernel
theorem dX11_writeNode_31 : decode cX11_writeNode 31 = .ok (.goto 38, 3) := by decide +kernel
theorem dX11_writeNode_34 : decode cX11_writeNode 34 = .ok (.iload_n 3, 1) := by decide +kernel
theorem dX11_writeNode_35 : decode cX11_writeNode 35 = .ok (.iconst 3, 1) := by decide +kernel
theorem dX11_writeNode_36 : decode cX11_writeNode 36 = .ok (.if_icmp .ne 28, 3) := by decide +kernel
theorem dX11_writeNode_39 : decode cX11_writeNode 39 = .ok (.aload_n 0, 1) := by decide +kernel
theorem dX11_writeNode_40 : decode cX11_writeNode 40 = .ok (.getfield 19, 3) := by decide +kernel
theorem dX11_writeNode_43 : decode cX11_writeNode 43 = .ok (.bipush 33, 2) := by decide +kernel
theorem dX11_writeNode_45 : decode cX11_writeNode 45 = .ok (.invokevirtual 396, 3) := by decide +kernel
theorem dX11_writeNode_48 : decode cX11_writeNode 48 = .ok (.aload_n 0, 1) := by decide +kernel
theorem dX11_writeNode_49 : decode cX11_writeNode 49 = .ok (.aload_n 0, 1) := by decide +kernel
theorem dX11_writeNode_50 : decode cX11_writeNode 50 = .ok (.getfield 36, 3) := by decide +kernel
theorem dX11_writeNode_53 : decode cX11_writeNode 53 = .ok (.getfield 410, 3) := by decide +kernel
theorem dX11_writeNode_56 : decode cX11_writeNode 56 = .ok (.iload_n 1, 1) := by decide +kernel
theorem dX11_writeNode_57 : decode cX11_writeNode 57 = .ok (.iaload, 1) := by decide +kernel
theorem dX11_writeNode_58 : decode cX11_writeNode 58 = .ok (.invokevirtual 413, 3) := by decide +kernel
theorem dX11_writeNode_61 : decode cX11_writeNode 61 = .ok (.goto 8, 3) := by decide +kernel
theorem dX11_writeNode_64 : decode cX11_writeNode 64 = .ok (.aload_n 0, 1) := by decide +kernel
theorem dX11_writeNode_65 : decode cX11_writeNode 65 = .ok (.iload_n 1, 1) := by decide +kernel
theorem dX11_writeNode_66 : decode cX11_writeNode 66 = .ok (.invokevirtual 416, 3) := by decide +kernel
theorem dX11_writeNode_69 : decode cX11_writeNode 69 = .ok (.aload_n 0, 1) := by decide +kernel
theorem dX11_writeNode_70 : decode cX11_writeNode 70 = .ok (.getfield 19, 3) := by decide +kernel
theorem dX11_writeNode_73 : decode cX11_writeNode 73 = .ok (.bipush 59, 2) := by decide +kernel
theorem dX11_writeNode_75 : decode cX11_writeNode 75 = .ok (.invokevirtual 396, 3) := by decide +kernel
theorem dX11_writeNode_78 : decode cX11_writeNode 78 = .ok (.return_, 1) := by decide +kernel
theorem dX11_writeAssignment_0 : decode cX11_writeAssignment 0 = .ok (.aload_n 0, 1) := by decide +kernel
theorem dX11_writeAssignment_1 : decode cX11_writeAssignment 1 = .ok (.getfield 19, 3) := by decide +kernel
theorem dX11_writeAssignment_4 : decode cX11_writeAssignment 4 = .ok (.bipush 97, 2) := by decide +kernel
theorem dX11_writeAssignment_6 : decode cX11_writeAssignment 6 = .ok (.aload_n 0, 1) := by decide +kernel
theorem dX11_writeAssignment_7 : decode cX11_writeAssignment 7 = .ok (.getfield 36, 3) := by decide +kernel
theorem dX11_writeAssignment_10 : decode cX11_writeAssignment 10 = .ok (.getfield 211, 3) := by decide +kernel
theorem dX11_writeAssignment_13 : decode cX11_writeAssignment 13 = .ok (.iload_n 1, 1) := by decide +kernel
theorem dX11_writeAssignment_14 : decode cX11_writeAssignment 14 = .ok (.iaload, 1) := by decide +kernel
theorem dX11_writeAssignment_15 : decode cX11_writeAssignment 15 = .ok (.iadd, 1) := by decide +kernel
theorem dX11_writeAssignment_16 : decode cX11_writeAssignment 16 = .ok (.invokevirtual 396, 3) := by decide +kernel
theorem dX11_writeAssignment_19 : decode cX11_writeAssignment 19 = .ok (.aload_n 0, 1) := by decide +kernel
theorem dX11_writeAssignment_20 : decode cX11_writeAssignment 20 = .ok (.getfield 19, 3) := by decide +kernel
theorem dX11_writeAssignment_23 : decode cX11_writeAssignment 23 = .ok (.bipush 61, 2) := by decide +kernel
theorem dX11_writeAssignment_25 : decode cX11_writeAssignment 25 = .ok (.invokevirtual 396, 3) := by decide +kernel
theorem dX11_writeAssignment_28 : decode cX11_writeAssignment 28 = .ok (.aload_n 0, 1) := by decide +kernel
theorem dX11_writeAssignment_29 : decode cX11_writeAssignment 29 = .ok (.getfield 36, 3) := by decide +kernel
theorem dX11_writeAssignment_32 : decode cX11_writeAssignment 32 = .ok (.getfield 202, 3) := by decide +kernel
theorem dX11_writeAssignment_35 : decode cX11_writeAssignment 35 = .ok (.iload_n 1, 1) := by decide +kernel
theorem dX11_writeAssignment_36 : decode cX11_writeAssignment 36 = .ok (.iaload, 1) := by decide +kernel
theorem dX11_writeAssignment_37 : decode cX11_writeAssignment 37 = .ok (.iconst 1, 1) := by decide +kernel
theorem dX11_writeAssignment_38 : decode cX11_writeAssignment 38 = .ok (.if_icmp .ne 19, 3) := by decide +kernel
theorem dX11_writeAssignment_41 : decode cX11_writeAssignment 41 = .ok (.aload_n 0, 1) := by decide +kernel
theorem dX11_writeAssignment_42 : decode cX11_writeAssignment 42 = .ok (.aload_n 0, 1) := by decide +kernel
theorem dX11_writeAssignment_43 : decode cX11_writeAssignment 43 = .ok (.getfield 36, 3) := by decide +kernel
theorem dX11_writeAssignment_46 : decode cX11_writeAssignment 46 = .ok (.getfield 410, 3) := by decide +kernel
theorem dX11_writeAssignment_49 : decode cX11_writeAssignment 49 = .ok (.iload_n 1, 1) := by decide +kernel
theorem dX11_writeAssignment_50 : decode cX11_writeAssignment 50 = .ok (.iaload, 1) := by decide +kernel
theorem dX11_writeAssignment_51 : decode cX11_writeAssignment 51 = .ok (.invokevirtual 413, 3) := by decide +kernel
theorem dX11_writeAssignment_54 : decode cX11_writeAssignment 54 = .ok (.goto 36, 3) := by decide +kernel
theorem dX11_writeAssignment_57 : decode cX11_writeAssignment 57 = .ok (.iload_n 2, 1) := by decide +kernel
theorem dX11_writeAssignment_58 : decode cX11_writeAssignment 58 = .ok (.ifCond .eq 19, 3) := by decide +kernel
theorem dX11_writeAssignment_61 : decode cX11_writeAssignment 61 = .ok (.aload_n 0, 1) := by decide +kernel
theorem dX11_writeAssignment_62 : decode cX11_writeAssignment 62 = .ok (.aload_n 0, 1) := by decide +kernel
theorem dX11_writeAssignment_63 : decode cX11_writeAssignment 63 = .ok (.getfield 36, 3) := by decide +kernel
theorem dX11_writeAssignment_66 : decode cX11_writeAssignment 66 = .ok (.getfield 208, 3) := by decide +kernel
theorem dX11_writeAssignment_69 : decode cX11_writeAssignment 69 = .ok (.iload_n 1, 1) := by decide +kernel
theorem dX11_writeAssignment_70 : decode cX11_writeAssignment 70 = .ok (.iaload, 1) := by decide +kernel
theorem dX11_writeAssignment_71 : decode cX11_writeAssignment 71 = .ok (.invokevirtual 393, 3) := by decide +kernel
theorem dX11_writeAssignment_74 : decode cX11_writeAssignment 74 = .ok (.goto 16, 3) := by decide +kernel
theorem dX11_writeAssignment_77 : decode cX11_writeAssignment 77 = .ok (.aload_n 0, 1) := by decide +kernel
theorem dX11_writeAssignment_78 : decode cX11_writeAssignment 78 = .ok (.aload_n 0, 1) := by decide +kernel
theorem dX11_writeAssignment_79 : decode cX11_writeAssignment 79 = .ok (.getfield 36, 3) := by decide +kernel
theorem dX11_writeAssignment_82 : decode cX11_writeAssignment 82 = .ok (.getfield 208, 3) := by decide +kernel
theorem dX11_writeAssignment_85 : decode cX11_writeAssignment 85 = .ok (.iload_n 1, 1) := by decide +kernel
theorem dX11_writeAssignment_86 : decode cX11_writeAssignment 86 = .ok (.iaload, 1) := by decide +kernel
theorem dX11_writeAssignment_87 : decode cX11_writeAssignment 87 = .ok (.invokevirtual 398, 3) := by decide +kernel
theorem dX11_writeAssignment_90 : decode cX11_writeAssignment 90 = .ok (.return_, 1) := by decide +kernel
theorem dX11_writeEnd_0 : decode cX11_writeEnd 0 = .ok (.aload_n 0, 1) := by decide +kernel
theorem dX11_writeEnd_1 : decode cX11_writeEnd 1 = .ok (.getfield 36, 3) := by decide +kernel
theorem dX11_writeEnd_4 : decode cX11_writeEnd 4 = .ok (.getfield 202, 3) := by decide +kernel
theorem dX11_writeEnd_7 : decode cX11_writeEnd 7 = .ok (.iload_n 1, 1) := by decide +kernel
theorem dX11_writeEnd_8 : decode cX11_writeEnd 8 = .ok (.iaload, 1) := by decide +kernel
theorem dX11_writeEnd_9 : decode cX11_writeEnd 9 = .ok (.istore_n 2, 1) := by decide +kernel
theorem dX11_writeEnd_10 : decode cX11_writeEnd 10 = .ok (.iload_n 2, 1) := by decide +kernel
theorem dX11_writeEnd_11 : decode cX11_writeEnd 11 = .ok (.bipush 6, 2) := by decide +kernel
theorem dX11_writeEnd_13 : decode cX11_writeEnd 13 = .ok (.if_icmp .ne 15, 3) := by decide +kernel
theorem dX11_writeEnd_16 : decode cX11_writeEnd 16 = .ok (.aload_n 0, 1) := by decide +kernel
theorem dX11_writeEnd_17 : decode cX11_writeEnd 17 = .ok (.getfield 19, 3) := by decide +kernel
theorem dX11_writeEnd_20 : decode cX11_writeEnd 20 = .ok (.bipush 46, 2) := by decide +kernel
theorem dX11_writeEnd_22 : decode cX11_writeEnd 22 = .ok (.invokevirtual 396, 3) := by decide +kernel
theorem dX11_writeEnd_25 : decode cX11_writeEnd 25 = .ok (.goto 105, 3) := by decide +kernel
theorem dX11_writeEnd_28 : decode cX11_writeEnd 28 = .ok (.iload_n 2, 1) := by decide +kernel
theorem dX11_writeEnd_29 : decode cX11_writeEnd 29 = .ok (.iconst 4, 1) := by decide +kernel
theorem dX11_writeEnd_30 : decode cX11_writeEnd 30 = .ok (.if_icmp .ne 31, 3) := by decide +kernel
theorem dX11_writeEnd_33 : decode cX11_writeEnd 33 = .ok (.aload_n 0, 1) := by decide +kernel
theorem dX11_writeEnd_34 : decode cX11_writeEnd 34 = .ok (.getfield 19, 3) := by decide +kernel
theorem dX11_writeEnd_37 : decode cX11_writeEnd 37 = .ok (.bipush 62, 2) := by decide +kernel
theorem dX11_writeEnd_39 : decode cX11_writeEnd 39 = .ok (.invokevirtual 396, 3) := by decide +kernel
theorem dX11_writeEnd_42 : decode cX11_writeEnd 42 = .ok (.aload_n 0, 1) := by decide +kernel
theorem dX11_writeEnd_43 : decode cX11_writeEnd 43 = .ok (.getfield 19, 3) := by decide +kernel
theorem dX11_writeEnd_46 : decode cX11_writeEnd 46 = .ok (.aload_n 0, 1) := by decide +kernel
theorem dX11_writeEnd_47 : decode cX11_writeEnd 47 = .ok (.getfield 36, 3) := by decide +kernel
theorem dX11_writeEnd_50 : decode cX11_writeEnd 50 = .ok (.getfield 419, 3) := by decide +kernel
theorem dX11_writeEnd_53 : decode cX11_writeEnd 53 = .ok (.iload_n 1, 1) := by decide +kernel
theorem dX11_writeEnd_54 : decode cX11_writeEnd 54 = .ok (.iaload, 1) := by decide +kernel
theorem dX11_writeEnd_55 : decode cX11_writeEnd 55 = .ok (.invokevirtual 422, 3) := by decide +kernel
theorem dX11_writeEnd_58 : decode cX11_writeEnd 58 = .ok (.goto 72, 3) := by decide +kernel
theorem dX11_writeEnd_61 : decode cX11_writeEnd 61 = .ok (.aload_n 0, 1) := by decide +kernel
theorem dX11_writeEnd_62 : decode cX11_writeEnd 62 = .ok (.getfield 19, 3) := by decide +kernel
theorem dX11_writeEnd_65 : decode cX11_writeEnd 65 = .ok (.bipush 63, 2) := by decide +kernel
theorem dX11_writeEnd_67 : decode cX11_writeEnd 67 = .ok (.invokevirtual 396, 3) := by decide +kernel
theorem dX11_writeEnd_70 : decode cX11_writeEnd 70 = .ok (.aload_n 0, 1) := by decide +kernel
theorem dX11_writeEnd_71 : decode cX11_writeEnd 71 = .ok (.getfield 19, 3) := by decide +kernel
theorem dX11_writeEnd_74 : decode cX11_writeEnd 74 = .ok (.bipush 97, 2) := by decide +kernel
theorem dX11_writeEnd_76 : decode cX11_writeEnd 76 = .ok (.aload_n 0, 1) := by decide +kernel
theorem dX11_writeEnd_77 : decode cX11_writeEnd 77 = .ok (.getfield 36, 3) := by decide +kernel
theorem dX11_writeEnd_80 : decode cX11_writeEnd 80 = .ok (.getfield 211, 3) := by decide +kernel
theorem dX11_writeEnd_83 : decode cX11_writeEnd 83 = .ok (.iload_n 1, 1) := by decide +kernel
theorem dX11_writeEnd_84 : decode cX11_writeEnd 84 = .ok (.iaload, 1) := by decide +kernel
theorem dX11_writeEnd_85 : decode cX11_writeEnd 85 = .ok (.iadd, 1) := by decide +kernel
theorem dX11_writeEnd_86 : decode cX11_writeEnd 86 = .ok (.invokevirtual 396, 3) := by decide +kernel
theorem dX11_writeEnd_89 : decode cX11_writeEnd 89 = .ok (.aload_n 0, 1) := by decide +kernel
theorem dX11_writeEnd_90 : decode cX11_writeEnd 90 = .ok (.getfield 19, 3) := by decide +kernel
theorem dX11_writeEnd_93 : decode cX11_writeEnd 93 = .ok (.aload_n 0, 1) := by decide +kernel
theorem dX11_writeEnd_94 : decode cX11_writeEnd 94 = .ok (.getfield 36, 3) := by decide +kernel
theorem dX11_writeEnd_97 : decode cX11_writeEnd 97 = .ok (.getfield 419, 3) := by decide +kernel
theorem dX11_writeEnd_100 : decode cX11_writeEnd 100 = .ok (.iload_n 1, 1) := by decide +kernel
theorem dX11_writeEnd_101 : decode cX11_writeEnd 101 = .ok (.iaload, 1) := by decide +kernel
theorem dX11_writeEnd_102 : decode cX11_writeEnd 102 = .ok (.invokevirtual 422, 3) := by decide +kernel
theorem dX11_writeEnd_105 : decode cX11_writeEnd 105 = .ok (.aload_n 0, 1) := by decide +kernel
theorem dX11_writeEnd_106 : decode cX11_writeEnd 106 = .ok (.getfield 19, 3) := by decide +kernel
theorem dX11_writeEnd_109 : decode cX11_writeEnd 109 = .ok (.bipush 44, 2) := by decide +kernel
theorem dX11_writeEnd_111 : decode cX11_writeEnd 111 = .ok (.invokevirtual 396, 3) := by decide +kernel
theorem dX11_writeEnd_114 : decode cX11_writeEnd 114 = .ok (.aload_n 0, 1) := by decide +kernel
theorem dX11_writeEnd_115 : decode cX11_writeEnd 115 = .ok (.getfield 19, 3) := by decide +kernel
theorem dX11_writeEnd_118 : decode cX11_writeEnd 118 = .ok (.aload_n 0, 1) := by decide +kernel
theorem dX11_writeEnd_119 : decode cX11_writeEnd 119 = .ok (.getfield 36, 3) := by decide +kernel
theorem dX11_writeEnd_122 : decode cX11_writeEnd 122 = .ok (.getfield 425, 3) := by decide +kernel
theorem dX11_writeEnd_125 : decode cX11_writeEnd 125 = .ok (.iload_n 1, 1) := by decide +kernel
theorem dX11_writeEnd_126 : decode cX11_writeEnd 126 = .ok (.iaload, 1) := by decide +kernel
theorem dX11_writeEnd_127 : decode cX11_writeEnd 127 = .ok (.invokevirtual 422, 3) := by decide +kernel
theorem dX11_writeEnd_130 : decode cX11_writeEnd 130 = .ok (.return_, 1) := by decide +kernel
theorem dX11_writeName_0 : decode cX11_writeName 0 = .ok (.aload_n 0, 1) := by decide +kernel
theorem dX11_writeName_1 : decode cX11_writeName 1 = .ok (.getfield 19, 3) := by decide +kernel
theorem dX11_writeName_4 : decode cX11_writeName 4 = .ok (.bipush 35, 2) := by decide +kernel
theorem dX11_writeName_6 : decode cX11_writeName 6 = .ok (.invokevirtual 396, 3) := by decide +kernel
theorem dX11_writeName_9 : decode cX11_writeName 9 = .ok (.aload_n 0, 1) := by decide +kernel
theorem dX11_writeName_10 : decode cX11_writeName 10 = .ok (.getfield 19, 3) := by decide +kernel
theorem dX11_writeName_13 : decode cX11_writeName 13 = .ok (.iload_n 1, 1) := by decide +kernel
theorem dX11_writeName_14 : decode cX11_writeName 14 = .ok (.invokevirtual 422, 3) := by decide +kernel
theorem dX11_writeName_17 : decode cX11_writeName 17 = .ok (.return_, 1) := by decide +kernel
theorem dX11_writeExpression_0 : decode cX11_writeExpression 0 = .ok (.aload_n 0, 1) := by decide +kernel
theorem dX11_writeExpression_1 : decode cX11_writeExpression 1 = .ok (.getfield 36, 3) := by decide +kernel
theorem dX11_writeExpression_4 : decode cX11_writeExpression 4 = .ok (.getfield 175, 3) := by decide +kernel
theorem dX11_writeExpression_7 : decode cX11_writeExpression 7 = .ok (.iload_n 1, 1) := by decide +kernel
theorem dX11_writeExpression_8 : decode cX11_writeExpression 8 = .ok (.invokevirtual 226, 3) := by decide +kernel
theorem dX11_writeExpression_11 : decode cX11_writeExpression 11 = .ok (.ifCond .eq 54, 3) := by decide +kernel
theorem dX11_writeExpression_14 : decode cX11_writeExpression 14 = .ok (.aload_n 0, 1) := by decide +kernel
theorem dX11_writeExpression_15 : decode cX11_writeExpression 15 = .ok (.aload_n 0, 1) := by decide +kernel
theorem dX11_writeExpression_16 : decode cX11_writeExpression 16 = .ok (.getfield 36, 3) := by decide +kernel
theorem dX11_writeExpression_19 : decode cX11_writeExpression 19 = .ok (.getfield 175, 3) := by decide +kernel
theorem dX11_writeExpression_22 : decode cX11_writeExpression 22 = .ok (.getfield 232, 3) := by decide +kernel
theorem dX11_writeExpression_25 : decode cX11_writeExpression 25 = .ok (.iload_n 1, 1) := by decide +kernel
theorem dX11_writeExpression_26 : decode cX11_writeExpression 26 = .ok (.iaload, 1) := by decide +kernel
theorem dX11_writeExpression_27 : decode cX11_writeExpression 27 = .ok (.invokevirtual 413, 3) := by decide +kernel
theorem dX11_writeExpression_30 : decode cX11_writeExpression 30 = .ok (.aload_n 0, 1) := by decide +kernel
theorem dX11_writeExpression_31 : decode cX11_writeExpression 31 = .ok (.getfield 19, 3) := by decide +kernel
theorem dX11_writeExpression_34 : decode cX11_writeExpression 34 = .ok (.aload_n 0, 1) := by decide +kernel
theorem dX11_writeExpression_35 : decode cX11_writeExpression 35 = .ok (.getfield 36, 3) := by decide +kernel
theorem dX11_writeExpression_38 : decode cX11_writeExpression 38 = .ok (.getfield 175, 3) := by decide +kernel
theorem dX11_writeExpression_41 : decode cX11_writeExpression 41 = .ok (.getfield 229, 3) := by decide +kernel
theorem dX11_writeExpression_44 : decode cX11_writeExpression 44 = .ok (.iload_n 1, 1) := by decide +kernel
theorem dX11_writeExpression_45 : decode cX11_writeExpression 45 = .ok (.iaload, 1) := by decide +kernel
theorem dX11_writeExpression_46 : decode cX11_writeExpression 46 = .ok (.invokevirtual 396, 3) := by decide +kernel
theorem dX11_writeExpression_49 : decode cX11_writeExpression 49 = .ok (.aload_n 0, 1) := by decide +kernel
theorem dX11_writeExpression_50 : decode cX11_writeExpression 50 = .ok (.aload_n 0, 1) := by decide +kernel
theorem dX11_writeExpression_51 : decode cX11_writeExpression 51 = .ok (.getfield 36, 3) := by decide +kernel
theorem dX11_writeExpression_54 : decode cX11_writeExpression 54 = .ok (.getfield 175, 3) := by decide +kernel
theorem dX11_writeExpression_57 : decode cX11_writeExpression 57 = .ok (.getfield 235, 3) := by decide +kernel
theorem dX11_writeExpression_60 : decode cX11_writeExpression 60 = .ok (.iload_n 1, 1) := by decide +kernel
theorem dX11_writeExpression_61 : decode cX11_writeExpression 61 = .ok (.iaload, 1) := by decide +kernel
theorem dX11_writeExpression_62 : decode cX11_writeExpression 62 = .ok (.invokevirtual 413, 3) := by decide +kernel
theorem dX11_writeExpression_65 : decode cX11_writeExpression 65 = .ok (.return_, 1) := by decide +kernel
theorem dX11_writeOperand_0 : decode cX11_writeOperand 0 = .ok (.iload_n 1, 1) := by decide +kernel
theorem dX11_writeOperand_1 : decode cX11_writeOperand 1 = .ok (.bipush 26, 2) := by decide +kernel
theorem dX11_writeOperand_3 : decode cX11_writeOperand 3 = .ok (.if_icmp .ge 17, 3) := by decide +kernel
theorem dX11_writeOperand_6 : decode cX11_writeOperand 6 = .ok (.aload_n 0, 1) := by decide +kernel
theorem dX11_writeOperand_7 : decode cX11_writeOperand 7 = .ok (.getfield 19, 3) := by decide +kernel
theorem dX11_writeOperand_10 : decode cX11_writeOperand 10 = .ok (.bipush 97, 2) := by decide +kernel
theorem dX11_writeOperand_12 : decode cX11_writeOperand 12 = .ok (.iload_n 1, 1) := by decide +kernel
theorem dX11_writeOperand_13 : decode cX11_writeOperand 13 = .ok (.iadd, 1) := by decide +kernel
theorem dX11_writeOperand_14 : decode cX11_writeOperand 14 = .ok (.invokevirtual 396, 3) := by decide +kernel
theorem dX11_writeOperand_17 : decode cX11_writeOperand 17 = .ok (.goto 14, 3) := by decide +kernel
theorem dX11_writeOperand_20 : decode cX11_writeOperand 20 = .ok (.aload_n 0, 1) := by decide +kernel
theorem dX11_writeOperand_21 : decode cX11_writeOperand 21 = .ok (.getfield 19, 3) := by decide +kernel
theorem dX11_writeOperand_24 : decode cX11_writeOperand 24 = .ok (.iload_n 1, 1) := by decide +kernel
theorem dX11_writeOperand_25 : decode cX11_writeOperand 25 = .ok (.bipush 26, 2) := by decide +kernel
theorem dX11_writeOperand_27 : decode cX11_writeOperand 27 = .ok (.isub, 1) := by decide +kernel
theorem dX11_writeOperand_28 : decode cX11_writeOperand 28 = .ok (.invokevirtual 422, 3) := by decide +kernel
theorem dX11_writeOperand_31 : decode cX11_writeOperand 31 = .ok (.return_, 1) := by decide +kernel
theorem dX11_isProgram_0 : decode cX11_isProgram 0 = .ok (.aload_n 0, 1) := by decide +kernel
theorem dX11_isProgram_1 : decode cX11_isProgram 1 = .ok (.getfield 36, 3) := by decide +kernel
theorem dX11_isProgram_4 : decode cX11_isProgram 4 = .ok (.getfield 120, 3) := by decide +kernel
theorem dX11_isProgram_7 : decode cX11_isProgram 7 = .ok (.ifCond .le 7, 3) := by decide +kernel
theorem dX11_isProgram_10 : decode cX11_isProgram 10 = .ok (.iconst 1, 1) := by decide +kernel
theorem dX11_isProgram_11 : decode cX11_isProgram 11 = .ok (.goto 4, 3) := by decide +kernel
theorem dX11_isProgram_14 : decode cX11_isProgram 14 = .ok (.iconst 0, 1) := by decide +kernel
theorem dX11_isProgram_15 : decode cX11_isProgram 15 = .ok (.ireturn, 1) := by decide +kernel
theorem dX11_isSoundOne_0 : decode cX11_isSoundOne 0 = .ok (.aload_n 0, 1) := by decide +kernel
theorem dX11_isSoundOne_1 : decode cX11_isSoundOne 1 = .ok (.getfield 43, 3) := by decide +kernel
theorem dX11_isSoundOne_4 : decode cX11_isSoundOne 4 = .ok (.getfield 191, 3) := by decide +kernel
theorem dX11_isSoundOne_7 : decode cX11_isSoundOne 7 = .ok (.ifCond .eq 21, 3) := by decide +kernel
theorem dX11_isSoundOne_10 : decode cX11_isSoundOne 10 = .ok (.aload_n 0, 1) := by decide +kernel
theorem dX11_isSoundOne_11 : decode cX11_isSoundOne 11 = .ok (.getfield 36, 3) := by decide +kernel
theorem dX11_isSoundOne_14 : decode cX11_isSoundOne 14 = .ok (.getfield 175, 3) := by decide +kernel
theorem dX11_isSoundOne_17 : decode cX11_isSoundOne 17 = .ok (.iload_n 1, 1) := by decide +kernel
theorem dX11_isSoundOne_18 : decode cX11_isSoundOne 18 = .ok (.invokevirtual 226, 3) := by decide +kernel
theorem dX11_isSoundOne_21 : decode cX11_isSoundOne 21 = .ok (.ifCond .eq 7, 3) := by decide +kernel
theorem dX11_isSoundOne_24 : decode cX11_isSoundOne 24 = .ok (.iconst 1, 1) := by decide +kernel
theorem dX11_isSoundOne_25 : decode cX11_isSoundOne 25 = .ok (.goto 4, 3) := by decide +kernel
theorem dX11_isSoundOne_28 : decode cX11_isSoundOne 28 = .ok (.iconst 0, 1) := by decide +kernel
theorem dX11_isSoundOne_29 : decode cX11_isSoundOne 29 = .ok (.ireturn, 1) := by decide +kernel
theorem dX11_isMoved_0 : decode cX11_isMoved 0 = .ok (.aload_n 0, 1) := by decide +kernel
theorem dX11_isMoved_1 : decode cX11_isMoved 1 = .ok (.getfield 43, 3) := by decide +kernel
theorem dX11_isMoved_4 : decode cX11_isMoved 4 = .ok (.getfield 191, 3) := by decide +kernel
theorem dX11_isMoved_7 : decode cX11_isMoved 7 = .ok (.ifCond .eq 16, 3) := by decide +kernel
theorem dX11_isMoved_10 : decode cX11_isMoved 10 = .ok (.iload_n 1, 1) := by decide +kernel
theorem dX11_isMoved_11 : decode cX11_isMoved 11 = .ok (.ifCond .eq 8, 3) := by decide +kernel
theorem dX11_isMoved_14 : decode cX11_isMoved 14 = .ok (.iload_n 1, 1) := by decide +kernel
theorem dX11_isMoved_15 : decode cX11_isMoved 15 = .ok (.iconst 1, 1) := by decide +kernel
theorem dX11_isMoved_16 : decode cX11_isMoved 16 = .ok (.if_icmp .ne 7, 3) := by decide +kernel
theorem dX11_isMoved_19 : decode cX11_isMoved 19 = .ok (.iconst 1, 1) := by decide +kernel
theorem dX11_isMoved_20 : decode cX11_isMoved 20 = .ok (.goto 4, 3) := by decide +kernel
theorem dX11_isMoved_23 : decode cX11_isMoved 23 = .ok (.iconst 0, 1) := by decide +kernel
theorem dX11_isMoved_24 : decode cX11_isMoved 24 = .ok (.ireturn, 1) := by decide +kernel
theorem dX11_isRunnable_0 : decode cX11_isRunnable 0 = .ok (.aload_n 0, 1) := by decide +kernel
theorem dX11_isRunnable_1 : decode cX11_isRunnable 1 = .ok (.invokevirtual 123, 3) := by decide +kernel
theorem dX11_isRunnable_4 : decode cX11_isRunnable 4 = .ok (.ifCond .eq 20, 3) := by decide +kernel
theorem dX11_isRunnable_7 : decode cX11_isRunnable 7 = .ok (.iload_n 1, 1) := by decide +kernel
theorem dX11_isRunnable_8 : decode cX11_isRunnable 8 = .ok (.iconst (-1), 1) := by decide +kernel
theorem dX11_isRunnable_9 : decode cX11_isRunnable 9 = .ok (.if_icmp .eq 11, 3) := by decide +kernel
theorem dX11_isRunnable_12 : decode cX11_isRunnable 12 = .ok (.aload_n 0, 1) := by decide +kernel
theorem dX11_isRunnable_13 : decode cX11_isRunnable 13 = .ok (.iload_n 1, 1) := by decide +kernel
theorem dX11_isRunnable_14 : decode cX11_isRunnable 14 = .ok (.invokevirtual 264, 3) := by decide +kernel
theorem dX11_isRunnable_17 : decode cX11_isRunnable 17 = .ok (.ifCond .eq 7, 3) := by decide +kernel
theorem dX11_isRunnable_20 : decode cX11_isRunnable 20 = .ok (.iconst 1, 1) := by decide +kernel
theorem dX11_isRunnable_21 : decode cX11_isRunnable 21 = .ok (.goto 4, 3) := by decide +kernel
theorem dX11_isRunnable_24 : decode cX11_isRunnable 24 = .ok (.iconst 0, 1) := by decide +kernel
theorem dX11_isRunnable_25 : decode cX11_isRunnable 25 = .ok (.ireturn, 1) := by decide +kernel
theorem dX11_placementBy_0 : decode cX11_placementBy 0 = .ok (.iload_n 1, 1) := by decide +kernel
theorem dX11_placementBy_1 : decode cX11_placementBy 1 = .ok (.ifCond .ne 8, 3) := by decide +kernel
theorem dX11_placementBy_4 : decode cX11_placementBy 4 = .ok (.aload_n 0, 1) := by decide +kernel
theorem dX11_placementBy_5 : decode cX11_placementBy 5 = .ok (.getfield 61, 3) := by decide +kernel
theorem dX11_placementBy_8 : decode cX11_placementBy 8 = .ok (.areturn, 1) := by decide +kernel
theorem dX11_placementBy_9 : decode cX11_placementBy 9 = .ok (.iload_n 1, 1) := by decide +kernel
theorem dX11_placementBy_10 : decode cX11_placementBy 10 = .ok (.iconst 1, 1) := by decide +kernel
theorem dX11_placementBy_11 : decode cX11_placementBy 11 = .ok (.if_icmp .ne 10, 3) := by decide +kernel
theorem dX11_placementBy_14 : decode cX11_placementBy 14 = .ok (.aload_n 0, 1) := by decide +kernel
theorem dX11_placementBy_15 : decode cX11_placementBy 15 = .ok (.getfield 64, 3) := by decide +kernel
theorem dX11_placementBy_18 : decode cX11_placementBy 18 = .ok (.goto 7, 3) := by decide +kernel
theorem dX11_placementBy_21 : decode cX11_placementBy 21 = .ok (.aload_n 0, 1) := by decide +kernel
theorem dX11_placementBy_22 : decode cX11_placementBy 22 = .ok (.getfield 57, 3) := by decide +kernel
theorem dX11_placementBy_25 : decode cX11_placementBy 25 = .ok (.areturn, 1) := by decide +kernel
theorem dX11_oneIf_0 : decode cX11_oneIf 0 = .ok (.iload_n 0, 1) := by decide +kernel
theorem dX11_oneIf_1 : decode cX11_oneIf 1 = .ok (.ifCond .eq 7, 3) := by decide +kernel
theorem dX11_oneIf_4 : decode cX11_oneIf 4 = .ok (.iconst 1, 1) := by decide +kernel
theorem dX11_oneIf_5 : decode cX11_oneIf 5 = .ok (.goto 4, 3) := by decide +kernel
theorem dX11_oneIf_8 : decode cX11_oneIf 8 = .ok (.iconst 0, 1) := by decide +kernel
theorem dX11_oneIf_9 : decode cX11_oneIf 9 = .ok (.ireturn, 1) := by decide +kernel
theorem dX11_bitOf_0 : decode cX11_bitOf 0 = .ok (.iload_n 0, 1) := by decide +kernel
theorem dX11_bitOf_1 : decode cX11_bitOf 1 = .ok (.iload_n 1, 1) := by decide +kernel
theorem dX11_bitOf_2 : decode cX11_bitOf 2 = .ok (.iushr, 1) := by decide +kernel
theorem dX11_bitOf_3 : decode cX11_bitOf 3 = .ok (.iconst 1, 1) := by decide +kernel
theorem dX11_bitOf_4 : decode cX11_bitOf 4 = .ok (.iand, 1) := by decide +kernel
theorem dX11_bitOf_5 : decode cX11_bitOf 5 = .ok (.ireturn, 1) := by decide +kernel
theorem dX12_init_0 : decode cX12_init 0 = .ok (.aload_n 0, 1) := by decide +kernel
theorem dX12_init_1 : decode cX12_init 1 = .ok (.invokespecial 1, 3) := by decide +kernel
theorem dX12_init_4 : decode cX12_init 4 = .ok (.aload_n 0, 1) := by decide +kernel
theorem dX12_init_5 : decode cX12_init 5 = .ok (.sipush 1700, 3) := by decide +kernel
theorem dX12_init_8 : decode cX12_init 8 = .ok (.newarray .int, 2) := by decide +kernel
theorem dX12_init_10 : decode cX12_init 10 = .ok (.putfield 7, 3) := by decide +kernel
theorem dX12_init_13 : decode cX12_init 13 = .ok (.aload_n 0, 1) := by decide +kernel
theorem dX12_init_14 : decode cX12_init 14 = .ok (.sipush 800, 3) := by decide +kernel
theorem dX12_init_17 : decode cX12_init 17 = .ok (.newarray .byte, 2) := by decide +kernel
theorem dX12_init_19 : decode cX12_init 19 = .ok (.putfield 13, 3) := by decide +kernel
theorem dX12_init_22 : decode cX12_init 22 = .ok (.aload_n 0, 1) := by decide +kernel
theorem dX12_init_23 : decode cX12_init 23 = .ok (.iconst (-1), 1) := by decide +kernel
theorem dX12_init_24 : decode cX12_init 24 = .ok (.putfield 17, 3) := by decide +kernel
theorem dX12_init_27 : decode cX12_init 27 = .ok (.aload_n 0, 1) := by decide +kernel
theorem dX12_init_28 : decode cX12_init 28 = .ok (.bipush 32, 2) := by decide +kernel
theorem dX12_init_30 : decode cX12_init 30 = .ok (.newarray .int, 2) := by decide +kernel
theorem dX12_init_32 : decode cX12_init 32 = .ok (.putfield 21, 3) := by decide +kernel
theorem dX12_init_35 : decode cX12_init 35 = .ok (.aload_n 0, 1) := by decide +kernel
theorem dX12_init_36 : decode cX12_init 36 = .ok (.bipush 112, 2) := by decide +kernel
theorem dX12_init_38 : decode cX12_init 38 = .ok (.newarray .int, 2) := by decide +kernel
theorem dX12_init_40 : decode cX12_init 40 = .ok (.putfield 24, 3) := by decide +kernel
theorem dX12_init_43 : decode cX12_init 43 = .ok (.aload_n 0, 1) := by decide +kernel
theorem dX12_init_44 : decode cX12_init 44 = .ok (.bipush 112, 2) := by decide +kernel
theorem dX12_init_46 : decode cX12_init 46 = .ok (.newarray .int, 2) := by decide +kernel
theorem dX12_init_48 : decode cX12_init 48 = .ok (.putfield 27, 3) := by decide +kernel
theorem dX12_init_51 : decode cX12_init 51 = .ok (.aload_n 0, 1) := by decide +kernel
theorem dX12_init_52 : decode cX12_init 52 = .ok (.bipush 112, 2) := by decide +kernel
theorem dX12_init_54 : decode cX12_init 54 = .ok (.newarray .int, 2) := by decide +kernel
theorem dX12_init_56 : decode cX12_init 56 = .ok (.putfield 30, 3) := by decide +kernel
theorem dX12_init_59 : decode cX12_init 59 = .ok (.aload_n 0, 1) := by decide +kernel
theorem dX12_init_60 : decode cX12_init 60 = .ok (.sipush 224, 3) := by decide +kernel
theorem dX12_init_63 : decode cX12_init 63 = .ok (.newarray .int, 2) := by decide +kernel
theorem dX12_init_65 : decode cX12_init 65 = .ok (.putfield 33, 3) := by decide +kernel
theorem dX12_init_68 : decode cX12_init 68 = .ok (.aload_n 0, 1) := by decide +kernel
theorem dX12_init_69 : decode cX12_init 69 = .ok (.bipush 112, 2) := by decide +kernel
theorem dX12_init_71 : decode cX12_init 71 = .ok (.newarray .int, 2) := by decide +kernel
theorem dX12_init_73 : decode cX12_init 73 = .ok (.putfield 36, 3) := by decide +kernel
theorem dX12_init_76 : decode cX12_init 76 = .ok (.aload_n 0, 1) := by decide +kernel
theorem dX12_init_77 : decode cX12_init 77 = .ok (.bipush 16, 2) := by decide +kernel
theorem dX12_init_79 : decode cX12_init 79 = .ok (.newarray .boolean, 2) := by decide +kernel
theorem dX12_init_81 : decode cX12_init 81 = .ok (.putfield 39, 3) := by decide +kernel
theorem dX12_init_84 : decode cX12_init 84 = .ok (.aload_n 0, 1) := by decide +kernel
theorem dX12_init_85 : decode cX12_init 85 = .ok (.bipush 16, 2) := by decide +kernel
theorem dX12_init_87 : decode cX12_init 87 = .ok (.newarray .int, 2) := by decide +kernel
theorem dX12_init_89 : decode cX12_init 89 = .ok (.putfield 43, 3) := by decide +kernel
theorem dX12_init_92 : decode cX12_init 92 = .ok (.aload_n 0, 1) := by decide +kernel
theorem dX12_init_93 : decode cX12_init 93 = .ok (.bipush 112, 2) := by decide +kernel
theorem dX12_init_95 : decode cX12_init 95 = .ok (.newarray .boolean, 2) := by decide +kernel
theorem dX12_init_97 : decode cX12_init 97 = .ok (.putfield 46, 3) := by decide +kernel
theorem dX12_init_100 : decode cX12_init 100 = .ok (.aload_n 0, 1) := by decide +kernel
theorem dX12_init_101 : decode cX12_init 101 = .ok (.sipush 21504, 3) := by decide +kernel
theorem dX12_init_104 : decode cX12_init 104 = .ok (.newarray .boolean, 2) := by decide +kernel
theorem dX12_init_106 : decode cX12_init 106 = .ok (.putfield 49, 3) := by decide +kernel
theorem dX12_init_109 : decode cX12_init 109 = .ok (.aload_n 0, 1) := by decide +kernel
theorem dX12_init_110 : decode cX12_init 110 = .ok (.sipush 16128, 3) := by decide +kernel
theorem dX12_init_113 : decode cX12_init 113 = .ok (.newarray .boolean, 2) := by decide +kernel
theorem dX12_init_115 : decode cX12_init 115 = .ok (.putfield 52, 3) := by decide +kernel
theorem dX12_init_118 : decode cX12_init 118 = .ok (.aload_n 0, 1) := by decide +kernel
theorem dX12_init_119 : decode cX12_init 119 = .ok (.bipush 24, 2) := by decide +kernel
theorem dX12_init_121 : decode cX12_init 121 = .ok (.newarray .int, 2) := by decide +kernel
theorem dX12_init_123 : decode cX12_init 123 = .ok (.putfield 55, 3) := by decide +kernel
theorem dX12_init_126 : decode cX12_init 126 = .ok (.aload_n 0, 1) := by decide +kernel
theorem dX12_init_127 : decode cX12_init 127 = .ok (.bipush 26, 2) := by decide +kernel
theorem dX12_init_129 : decode cX12_init 129 = .ok (.newarray .int, 2) := by decide +kernel
theorem dX12_init_131 : decode cX12_init 131 = .ok (.putfield 58, 3) := by decide +kernel
theorem dX12_init_134 : decode cX12_init 134 = .ok (.aload_n 0, 1) := by decide +kernel
theorem dX12_init_135 : decode cX12_init 135 = .ok (.bipush 26, 2) := by decide +kernel
theorem dX12_init_137 : decode cX12_init 137 = .ok (.newarray .int, 2) := by decide +kernel
theorem dX12_init_139 : decode cX12_init 139 = .ok (.putfield 61, 3) := by decide +kernel
theorem dX12_init_142 : decode cX12_init 142 = .ok (.aload_n 0, 1) := by decide +kernel
theorem dX12_init_143 : decode cX12_init 143 = .ok (.bipush 24, 2) := by decide +kernel
theorem dX12_init_145 : decode cX12_init 145 = .ok (.newarray .int, 2) := by decide +kernel
theorem dX12_init_147 : decode cX12_init 147 = .ok (.putfield 64, 3) := by decide +kernel
theorem dX12_init_150 : decode cX12_init 150 = .ok (.aload_n 0, 1) := by decide +kernel
theorem dX12_init_151 : decode cX12_init 151 = .ok (.bipush 24, 2) := by decide +kernel
theorem dX12_init_153 : decode cX12_init 153 = .ok (.newarray .int, 2) := by decide +kernel
theorem dX12_init_155 : decode cX12_init 155 = .ok (.putfield 67, 3) := by decide +kernel
theorem dX12_init_158 : decode cX12_init 158 = .ok (.aload_n 0, 1) := by decide +kernel
theorem dX12_init_159 : decode cX12_init 159 = .ok (.bipush 40, 2) := by decide +kernel
theorem dX12_init_161 : decode cX12_init 161 = .ok (.newarray .int, 2) := by decide +kernel
theorem dX12_init_163 : decode cX12_init 163 = .ok (.putfield 70, 3) := by decide +kernel
theorem dX12_init_166 : decode cX12_init 166 = .ok (.aload_n 0, 1) := by decide +kernel
theorem dX12_init_167 : decode cX12_init 167 = .ok (.bipush 26, 2) := by decide +kernel
theorem dX12_init_169 : decode cX12_init 169 = .ok (.newarray .int, 2) := by decide +kernel
theorem dX12_init_171 : decode cX12_init 171 = .ok (.putfield 73, 3) := by decide +kernel
theorem dX12_init_174 : decode cX12_init 174 = .ok (.aload_n 0, 1) := by decide +kernel
theorem dX12_init_175 : decode cX12_init 175 = .ok (.bipush 24, 2) := by decide +kernel
theorem dX12_init_177 : decode cX12_init 177 = .ok (.newarray .int, 2) := by decide +kernel
theorem dX12_init_179 : decode cX12_init 179 = .ok (.putfield 76, 3) := by decide +kernel
theorem dX12_init_182 : decode cX12_init 182 = .ok (.aload_n 0, 1) := by decide +kernel
theorem dX12_init_183 : decode cX12_init 183 = .ok (.bipush 40, 2) := by decide +kernel
theorem dX12_init_185 : decode cX12_init 185 = .ok (.newarray .int, 2) := by decide +kernel
theorem dX12_init_187 : decode cX12_init 187 = .ok (.putfield 79, 3) := by decide +kernel
theorem dX12_init_190 : decode cX12_init 190 = .ok (.aload_n 0, 1) := by decide +kernel
theorem dX12_init_191 : decode cX12_init 191 = .ok (.bipush 40, 2) := by decide +kernel
theorem dX12_init_193 : decode cX12_init 193 = .ok (.newarray .int, 2) := by decide +kernel
theorem dX12_init_195 : decode cX12_init 195 = .ok (.putfield 82, 3) := by decide +kernel
theorem dX12_init_198 : decode cX12_init 198 = .ok (.aload_n 0, 1) := by decide +kernel
theorem dX12_init_199 : decode cX12_init 199 = .ok (.bipush 12, 2) := by decide +kernel
theorem dX12_init_201 : decode cX12_init 201 = .ok (.newarray .boolean, 2) := by decide +kernel
theorem dX12_init_203 : decode cX12_init 203 = .ok (.putfield 85, 3) := by decide +kernel
theorem dX12_init_206 : decode cX12_init 206 = .ok (.aload_n 0, 1) := by decide +kernel
theorem dX12_init_207 : decode cX12_init 207 = .ok (.bipush 12, 2) := by decide +kernel
theorem dX12_init_209 : decode cX12_init 209 = .ok (.newarray .boolean, 2) := by decide +kernel
