theorem dX0_init_0 : decode cX0_init 0 = .ok (.aload_n 0, 1) := by decide +kernel
theorem dX0_init_1 : decode cX0_init 1 = .ok (.invokespecial 3, 3) := by decide +kernel
theorem dX0_init_4 : decode cX0_init 4 = .ok (.aload_n 0, 1) := by decide +kernel
theorem dX0_init_5 : decode cX0_init 5 = .ok (.aload_n 1, 1) := by decide +kernel
theorem dX0_init_6 : decode cX0_init 6 = .ok (.putfield 9, 3) := by decide +kernel
theorem dX0_init_9 : decode cX0_init 9 = .ok (.aload_n 0, 1) := by decide +kernel
theorem dX0_init_10 : decode cX0_init 10 = .ok (.iload_n 2, 1) := by decide +kernel
theorem dX0_init_11 : decode cX0_init 11 = .ok (.putfield 15, 3) := by decide +kernel
theorem dX0_init_14 : decode cX0_init 14 = .ok (.aload_n 0, 1) := by decide +kernel
theorem dX0_init_15 : decode cX0_init 15 = .ok (.iload_n 3, 1) := by decide +kernel
theorem dX0_init_16 : decode cX0_init 16 = .ok (.putfield 19, 3) := by decide +kernel
theorem dX0_init_19 : decode cX0_init 19 = .ok (.aload_n 0, 1) := by decide +kernel
theorem dX0_init_20 : decode cX0_init 20 = .ok (.aload_n 1, 1) := by decide +kernel
theorem dX0_init_21 : decode cX0_init 21 = .ok (.getfield 22, 3) := by decide +kernel
theorem dX0_init_24 : decode cX0_init 24 = .ok (.iconst 1, 1) := by decide +kernel
theorem dX0_init_25 : decode cX0_init 25 = .ok (.isub, 1) := by decide +kernel
theorem dX0_init_26 : decode cX0_init 26 = .ok (.iconst 4, 1) := by decide +kernel
theorem dX0_init_27 : decode cX0_init 27 = .ok (.invokestatic 27, 3) := by decide +kernel
theorem dX0_init_30 : decode cX0_init 30 = .ok (.putfield 33, 3) := by decide +kernel
theorem dX0_init_33 : decode cX0_init 33 = .ok (.aload_n 0, 1) := by decide +kernel
theorem dX0_init_34 : decode cX0_init 34 = .ok (.aload_n 0, 1) := by decide +kernel
theorem dX0_init_35 : decode cX0_init 35 = .ok (.getfield 33, 3) := by decide +kernel
theorem dX0_init_38 : decode cX0_init 38 = .ok (.iconst 1, 1) := by decide +kernel
theorem dX0_init_39 : decode cX0_init 39 = .ok (.isub, 1) := by decide +kernel
theorem dX0_init_40 : decode cX0_init 40 = .ok (.putfield 36, 3) := by decide +kernel
theorem dX0_init_43 : decode cX0_init 43 = .ok (.aload_n 0, 1) := by decide +kernel
theorem dX0_init_44 : decode cX0_init 44 = .ok (.iconst 4, 1) := by decide +kernel
theorem dX0_init_45 : decode cX0_init 45 = .ok (.newarray .int, 2) := by decide +kernel
theorem dX0_init_47 : decode cX0_init 47 = .ok (.putfield 39, 3) := by decide +kernel
theorem dX0_init_50 : decode cX0_init 50 = .ok (.aload_n 0, 1) := by decide +kernel
theorem dX0_init_51 : decode cX0_init 51 = .ok (.iconst 3, 1) := by decide +kernel
theorem dX0_init_52 : decode cX0_init 52 = .ok (.newarray .int, 2) := by decide +kernel
theorem dX0_init_54 : decode cX0_init 54 = .ok (.putfield 43, 3) := by decide +kernel
theorem dX0_init_57 : decode cX0_init 57 = .ok (.aload_n 0, 1) := by decide +kernel
theorem dX0_init_58 : decode cX0_init 58 = .ok (.iconst 3, 1) := by decide +kernel
theorem dX0_init_59 : decode cX0_init 59 = .ok (.newarray .int, 2) := by decide +kernel
theorem dX0_init_61 : decode cX0_init 61 = .ok (.putfield 46, 3) := by decide +kernel
theorem dX0_init_64 : decode cX0_init 64 = .ok (.aload_n 0, 1) := by decide +kernel
theorem dX0_init_65 : decode cX0_init 65 = .ok (.iconst 4, 1) := by decide +kernel
theorem dX0_init_66 : decode cX0_init 66 = .ok (.newarray .long, 2) := by decide +kernel
theorem dX0_init_68 : decode cX0_init 68 = .ok (.putfield 49, 3) := by decide +kernel
theorem dX0_init_71 : decode cX0_init 71 = .ok (.aload_n 0, 1) := by decide +kernel
theorem dX0_init_72 : decode cX0_init 72 = .ok (.iconst 4, 1) := by decide +kernel
theorem dX0_init_73 : decode cX0_init 73 = .ok (.newarray .long, 2) := by decide +kernel
theorem dX0_init_75 : decode cX0_init 75 = .ok (.putfield 53, 3) := by decide +kernel
theorem dX0_init_78 : decode cX0_init 78 = .ok (.aload_n 0, 1) := by decide +kernel
theorem dX0_init_79 : decode cX0_init 79 = .ok (.new 56, 3) := by decide +kernel
theorem dX0_init_82 : decode cX0_init 82 = .ok (.dup, 1) := by decide +kernel
theorem dX0_init_83 : decode cX0_init 83 = .ok (.invokespecial 58, 3) := by decide +kernel
theorem dX0_init_86 : decode cX0_init 86 = .ok (.putfield 59, 3) := by decide +kernel
theorem dX0_init_89 : decode cX0_init 89 = .ok (.return_, 1) := by decide +kernel
theorem dX0_putOrder_0 : decode cX0_putOrder 0 = .ok (.iload_n 1, 1) := by decide +kernel
theorem dX0_putOrder_1 : decode cX0_putOrder 1 = .ok (.istore_n 2, 1) := by decide +kernel
theorem dX0_putOrder_2 : decode cX0_putOrder 2 = .ok (.aload_n 0, 1) := by decide +kernel
theorem dX0_putOrder_3 : decode cX0_putOrder 3 = .ok (.getfield 33, 3) := by decide +kernel
theorem dX0_putOrder_6 : decode cX0_putOrder 6 = .ok (.iconst 1, 1) := by decide +kernel
theorem dX0_putOrder_7 : decode cX0_putOrder 7 = .ok (.isub, 1) := by decide +kernel
theorem dX0_putOrder_8 : decode cX0_putOrder 8 = .ok (.istore_n 3, 1) := by decide +kernel
theorem dX0_putOrder_9 : decode cX0_putOrder 9 = .ok (.iload_n 3, 1) := by decide +kernel
theorem dX0_putOrder_10 : decode cX0_putOrder 10 = .ok (.ifCond .lt 24, 3) := by decide +kernel
theorem dX0_putOrder_13 : decode cX0_putOrder 13 = .ok (.aload_n 0, 1) := by decide +kernel
theorem dX0_putOrder_14 : decode cX0_putOrder 14 = .ok (.getfield 39, 3) := by decide +kernel
theorem dX0_putOrder_17 : decode cX0_putOrder 17 = .ok (.iload_n 3, 1) := by decide +kernel
theorem dX0_putOrder_18 : decode cX0_putOrder 18 = .ok (.iload_n 2, 1) := by decide +kernel
theorem dX0_putOrder_19 : decode cX0_putOrder 19 = .ok (.bipush 10, 2) := by decide +kernel
theorem dX0_putOrder_21 : decode cX0_putOrder 21 = .ok (.irem, 1) := by decide +kernel
theorem dX0_putOrder_22 : decode cX0_putOrder 22 = .ok (.iastore, 1) := by decide +kernel
theorem dX0_putOrder_23 : decode cX0_putOrder 23 = .ok (.iload_n 2, 1) := by decide +kernel
theorem dX0_putOrder_24 : decode cX0_putOrder 24 = .ok (.bipush 10, 2) := by decide +kernel
theorem dX0_putOrder_26 : decode cX0_putOrder 26 = .ok (.idiv, 1) := by decide +kernel
theorem dX0_putOrder_27 : decode cX0_putOrder 27 = .ok (.istore_n 2, 1) := by decide +kernel
theorem dX0_putOrder_28 : decode cX0_putOrder 28 = .ok (.iinc 3 (-1), 3) := by decide +kernel
theorem dX0_putOrder_31 : decode cX0_putOrder 31 = .ok (.goto (-22), 3) := by decide +kernel
theorem dX0_putOrder_34 : decode cX0_putOrder 34 = .ok (.lconst 0, 1) := by decide +kernel
theorem dX0_putOrder_35 : decode cX0_putOrder 35 = .ok (.lstore_n 3, 1) := by decide +kernel
theorem dX0_putOrder_36 : decode cX0_putOrder 36 = .ok (.lconst 0, 1) := by decide +kernel
theorem dX0_putOrder_37 : decode cX0_putOrder 37 = .ok (.lstore 5, 2) := by decide +kernel
theorem dX0_putOrder_39 : decode cX0_putOrder 39 = .ok (.iconst 0, 1) := by decide +kernel
theorem dX0_putOrder_40 : decode cX0_putOrder 40 = .ok (.istore 7, 2) := by decide +kernel
theorem dX0_putOrder_42 : decode cX0_putOrder 42 = .ok (.iload 7, 2) := by decide +kernel
theorem dX0_putOrder_44 : decode cX0_putOrder 44 = .ok (.aload_n 0, 1) := by decide +kernel
theorem dX0_putOrder_45 : decode cX0_putOrder 45 = .ok (.getfield 33, 3) := by decide +kernel
theorem dX0_putOrder_48 : decode cX0_putOrder 48 = .ok (.if_icmp .ge 64, 3) := by decide +kernel
theorem dX0_putOrder_51 : decode cX0_putOrder 51 = .ok (.lload_n 3, 1) := by decide +kernel
theorem dX0_putOrder_52 : decode cX0_putOrder 52 = .ok (.aload_n 0, 1) := by decide +kernel
theorem dX0_putOrder_53 : decode cX0_putOrder 53 = .ok (.getfield 9, 3) := by decide +kernel
theorem dX0_putOrder_56 : decode cX0_putOrder 56 = .ok (.aload_n 0, 1) := by decide +kernel
theorem dX0_putOrder_57 : decode cX0_putOrder 57 = .ok (.getfield 39, 3) := by decide +kernel
theorem dX0_putOrder_60 : decode cX0_putOrder 60 = .ok (.iload 7, 2) := by decide +kernel
theorem dX0_putOrder_62 : decode cX0_putOrder 62 = .ok (.iaload, 1) := by decide +kernel
theorem dX0_putOrder_63 : decode cX0_putOrder 63 = .ok (.invokevirtual 63, 3) := by decide +kernel
theorem dX0_putOrder_66 : decode cX0_putOrder 66 = .ok (.i2l, 1) := by decide +kernel
theorem dX0_putOrder_67 : decode cX0_putOrder 67 = .ok (.ladd, 1) := by decide +kernel
theorem dX0_putOrder_68 : decode cX0_putOrder 68 = .ok (.lstore_n 3, 1) := by decide +kernel
theorem dX0_putOrder_69 : decode cX0_putOrder 69 = .ok (.lload 5, 2) := by decide +kernel
theorem dX0_putOrder_71 : decode cX0_putOrder 71 = .ok (.aload_n 0, 1) := by decide +kernel
theorem dX0_putOrder_72 : decode cX0_putOrder 72 = .ok (.getfield 9, 3) := by decide +kernel
theorem dX0_putOrder_75 : decode cX0_putOrder 75 = .ok (.aload_n 0, 1) := by decide +kernel
theorem dX0_putOrder_76 : decode cX0_putOrder 76 = .ok (.getfield 39, 3) := by decide +kernel
theorem dX0_putOrder_79 : decode cX0_putOrder 79 = .ok (.iload 7, 2) := by decide +kernel
theorem dX0_putOrder_81 : decode cX0_putOrder 81 = .ok (.iaload, 1) := by decide +kernel
theorem dX0_putOrder_82 : decode cX0_putOrder 82 = .ok (.invokevirtual 67, 3) := by decide +kernel
theorem dX0_putOrder_85 : decode cX0_putOrder 85 = .ok (.i2l, 1) := by decide +kernel
theorem dX0_putOrder_86 : decode cX0_putOrder 86 = .ok (.ladd, 1) := by decide +kernel
theorem dX0_putOrder_87 : decode cX0_putOrder 87 = .ok (.lstore 5, 2) := by decide +kernel
theorem dX0_putOrder_89 : decode cX0_putOrder 89 = .ok (.aload_n 0, 1) := by decide +kernel
theorem dX0_putOrder_90 : decode cX0_putOrder 90 = .ok (.getfield 49, 3) := by decide +kernel
theorem dX0_putOrder_93 : decode cX0_putOrder 93 = .ok (.iload 7, 2) := by decide +kernel
theorem dX0_putOrder_95 : decode cX0_putOrder 95 = .ok (.lload_n 3, 1) := by decide +kernel
theorem dX0_putOrder_96 : decode cX0_putOrder 96 = .ok (.lastore, 1) := by decide +kernel
theorem dX0_putOrder_97 : decode cX0_putOrder 97 = .ok (.aload_n 0, 1) := by decide +kernel
theorem dX0_putOrder_98 : decode cX0_putOrder 98 = .ok (.getfield 53, 3) := by decide +kernel
theorem dX0_putOrder_101 : decode cX0_putOrder 101 = .ok (.iload 7, 2) := by decide +kernel
theorem dX0_putOrder_103 : decode cX0_putOrder 103 = .ok (.lload 5, 2) := by decide +kernel
theorem dX0_putOrder_105 : decode cX0_putOrder 105 = .ok (.lastore, 1) := by decide +kernel
theorem dX0_putOrder_106 : decode cX0_putOrder 106 = .ok (.iinc 7 1, 3) := by decide +kernel
theorem dX0_putOrder_109 : decode cX0_putOrder 109 = .ok (.goto (-67), 3) := by decide +kernel
theorem dX0_putOrder_112 : decode cX0_putOrder 112 = .ok (.return_, 1) := by decide +kernel
theorem dX0_putModuli_0 : decode cX0_putModuli 0 = .ok (.aload_n 0, 1) := by decide +kernel
theorem dX0_putModuli_1 : decode cX0_putModuli 1 = .ok (.iload_n 1, 1) := by decide +kernel
theorem dX0_putModuli_2 : decode cX0_putModuli 2 = .ok (.invokevirtual 70, 3) := by decide +kernel
theorem dX0_putModuli_5 : decode cX0_putModuli 5 = .ok (.ifCond .eq 23, 3) := by decide +kernel
theorem dX0_putModuli_8 : decode cX0_putModuli 8 = .ok (.aload_n 0, 1) := by decide +kernel
theorem dX0_putModuli_9 : decode cX0_putModuli 9 = .ok (.getfield 43, 3) := by decide +kernel
theorem dX0_putModuli_12 : decode cX0_putModuli 12 = .ok (.iload_n 1, 1) := by decide +kernel
theorem dX0_putModuli_13 : decode cX0_putModuli 13 = .ok (.iload_n 2, 1) := by decide +kernel
theorem dX0_putModuli_14 : decode cX0_putModuli 14 = .ok (.bipush 100, 2) := by decide +kernel
theorem dX0_putModuli_16 : decode cX0_putModuli 16 = .ok (.idiv, 1) := by decide +kernel
theorem dX0_putModuli_17 : decode cX0_putModuli 17 = .ok (.iastore, 1) := by decide +kernel
theorem dX0_putModuli_18 : decode cX0_putModuli 18 = .ok (.aload_n 0, 1) := by decide +kernel
theorem dX0_putModuli_19 : decode cX0_putModuli 19 = .ok (.getfield 46, 3) := by decide +kernel
theorem dX0_putModuli_22 : decode cX0_putModuli 22 = .ok (.iload_n 1, 1) := by decide +kernel
theorem dX0_putModuli_23 : decode cX0_putModuli 23 = .ok (.iload_n 2, 1) := by decide +kernel
theorem dX0_putModuli_24 : decode cX0_putModuli 24 = .ok (.bipush 100, 2) := by decide +kernel
theorem dX0_putModuli_26 : decode cX0_putModuli 26 = .ok (.irem, 1) := by decide +kernel
theorem dX0_putModuli_27 : decode cX0_putModuli 27 = .ok (.iastore, 1) := by decide +kernel
theorem dX0_putModuli_28 : decode cX0_putModuli 28 = .ok (.return_, 1) := by decide +kernel
theorem dX0_hasPage_0 : decode cX0_hasPage 0 = .ok (.iload_n 1, 1) := by decide +kernel
theorem dX0_hasPage_1 : decode cX0_hasPage 1 = .ok (.ifCond .lt 15, 3) := by decide +kernel
theorem dX0_hasPage_4 : decode cX0_hasPage 4 = .ok (.iload_n 1, 1) := by decide +kernel
theorem dX0_hasPage_5 : decode cX0_hasPage 5 = .ok (.aload_n 0, 1) := by decide +kernel
theorem dX0_hasPage_6 : decode cX0_hasPage 6 = .ok (.getfield 36, 3) := by decide +kernel
theorem dX0_hasPage_9 : decode cX0_hasPage 9 = .ok (.if_icmp .ge 7, 3) := by decide +kernel
theorem dX0_hasPage_12 : decode cX0_hasPage 12 = .ok (.iconst 1, 1) := by decide +kernel
theorem dX0_hasPage_13 : decode cX0_hasPage 13 = .ok (.goto 4, 3) := by decide +kernel
theorem dX0_hasPage_16 : decode cX0_hasPage 16 = .ok (.iconst 0, 1) := by decide +kernel
theorem dX0_hasPage_17 : decode cX0_hasPage 17 = .ok (.ireturn, 1) := by decide +kernel
theorem dX0_hasMarks_0 : decode cX0_hasMarks 0 = .ok (.iload_n 1, 1) := by decide +kernel
theorem dX0_hasMarks_1 : decode cX0_hasMarks 1 = .ok (.ifCond .ge 5, 3) := by decide +kernel
theorem dX0_hasMarks_4 : decode cX0_hasMarks 4 = .ok (.iconst 0, 1) := by decide +kernel
theorem dX0_hasMarks_5 : decode cX0_hasMarks 5 = .ok (.ireturn, 1) := by decide +kernel
theorem dX0_hasMarks_6 : decode cX0_hasMarks 6 = .ok (.iload_n 1, 1) := by decide +kernel
theorem dX0_hasMarks_7 : decode cX0_hasMarks 7 = .ok (.istore_n 2, 1) := by decide +kernel
theorem dX0_hasMarks_8 : decode cX0_hasMarks 8 = .ok (.aload_n 0, 1) := by decide +kernel
theorem dX0_hasMarks_9 : decode cX0_hasMarks 9 = .ok (.getfield 33, 3) := by decide +kernel
theorem dX0_hasMarks_12 : decode cX0_hasMarks 12 = .ok (.iconst 1, 1) := by decide +kernel
theorem dX0_hasMarks_13 : decode cX0_hasMarks 13 = .ok (.isub, 1) := by decide +kernel
theorem dX0_hasMarks_14 : decode cX0_hasMarks 14 = .ok (.istore_n 3, 1) := by decide +kernel
theorem dX0_hasMarks_15 : decode cX0_hasMarks 15 = .ok (.iload_n 3, 1) := by decide +kernel
theorem dX0_hasMarks_16 : decode cX0_hasMarks 16 = .ok (.ifCond .lt 36, 3) := by decide +kernel
theorem dX0_hasMarks_19 : decode cX0_hasMarks 19 = .ok (.aload_n 0, 1) := by decide +kernel
theorem dX0_hasMarks_20 : decode cX0_hasMarks 20 = .ok (.getfield 9, 3) := by decide +kernel
theorem dX0_hasMarks_23 : decode cX0_hasMarks 23 = .ok (.aload_n 0, 1) := by decide +kernel
theorem dX0_hasMarks_24 : decode cX0_hasMarks 24 = .ok (.getfield 39, 3) := by decide +kernel
theorem dX0_hasMarks_27 : decode cX0_hasMarks 27 = .ok (.iload_n 3, 1) := by decide +kernel
theorem dX0_hasMarks_28 : decode cX0_hasMarks 28 = .ok (.iaload, 1) := by decide +kernel
theorem dX0_hasMarks_29 : decode cX0_hasMarks 29 = .ok (.iload_n 2, 1) := by decide +kernel
theorem dX0_hasMarks_30 : decode cX0_hasMarks 30 = .ok (.bipush 100, 2) := by decide +kernel
theorem dX0_hasMarks_32 : decode cX0_hasMarks 32 = .ok (.irem, 1) := by decide +kernel
theorem dX0_hasMarks_33 : decode cX0_hasMarks 33 = .ok (.invokevirtual 74, 3) := by decide +kernel
theorem dX0_hasMarks_36 : decode cX0_hasMarks 36 = .ok (.ifCond .ne 5, 3) := by decide +kernel
theorem dX0_hasMarks_39 : decode cX0_hasMarks 39 = .ok (.iconst 0, 1) := by decide +kernel
theorem dX0_hasMarks_40 : decode cX0_hasMarks 40 = .ok (.ireturn, 1) := by decide +kernel
theorem dX0_hasMarks_41 : decode cX0_hasMarks 41 = .ok (.iload_n 2, 1) := by decide +kernel
theorem dX0_hasMarks_42 : decode cX0_hasMarks 42 = .ok (.bipush 100, 2) := by decide +kernel
theorem dX0_hasMarks_44 : decode cX0_hasMarks 44 = .ok (.idiv, 1) := by decide +kernel
theorem dX0_hasMarks_45 : decode cX0_hasMarks 45 = .ok (.istore_n 2, 1) := by decide +kernel
theorem dX0_hasMarks_46 : decode cX0_hasMarks 46 = .ok (.iinc 3 (-1), 3) := by decide +kernel
theorem dX0_hasMarks_49 : decode cX0_hasMarks 49 = .ok (.goto (-34), 3) := by decide +kernel
theorem dX0_hasMarks_52 : decode cX0_hasMarks 52 = .ok (.iload_n 2, 1) := by decide +kernel
theorem dX0_hasMarks_53 : decode cX0_hasMarks 53 = .ok (.ifCond .ne 7, 3) := by decide +kernel
theorem dX0_hasMarks_56 : decode cX0_hasMarks 56 = .ok (.iconst 1, 1) := by decide +kernel
theorem dX0_hasMarks_57 : decode cX0_hasMarks 57 = .ok (.goto 4, 3) := by decide +kernel
theorem dX0_hasMarks_60 : decode cX0_hasMarks 60 = .ok (.iconst 0, 1) := by decide +kernel
theorem dX0_hasMarks_61 : decode cX0_hasMarks 61 = .ok (.ireturn, 1) := by decide +kernel
theorem dX0_markAt_0 : decode cX0_markAt 0 = .ok (.iload_n 1, 1) := by decide +kernel
theorem dX0_markAt_1 : decode cX0_markAt 1 = .ok (.istore_n 3, 1) := by decide +kernel
theorem dX0_markAt_2 : decode cX0_markAt 2 = .ok (.aload_n 0, 1) := by decide +kernel
theorem dX0_markAt_3 : decode cX0_markAt 3 = .ok (.getfield 33, 3) := by decide +kernel
theorem dX0_markAt_6 : decode cX0_markAt 6 = .ok (.iconst 1, 1) := by decide +kernel
theorem dX0_markAt_7 : decode cX0_markAt 7 = .ok (.isub, 1) := by decide +kernel
theorem dX0_markAt_8 : decode cX0_markAt 8 = .ok (.istore 4, 2) := by decide +kernel
theorem dX0_markAt_10 : decode cX0_markAt 10 = .ok (.iload 4, 2) := by decide +kernel
theorem dX0_markAt_12 : decode cX0_markAt 12 = .ok (.iload_n 2, 1) := by decide +kernel
theorem dX0_markAt_13 : decode cX0_markAt 13 = .ok (.if_icmp .le 14, 3) := by decide +kernel
theorem dX0_markAt_16 : decode cX0_markAt 16 = .ok (.iload_n 3, 1) := by decide +kernel
theorem dX0_markAt_17 : decode cX0_markAt 17 = .ok (.bipush 100, 2) := by decide +kernel
theorem dX0_markAt_19 : decode cX0_markAt 19 = .ok (.idiv, 1) := by decide +kernel
theorem dX0_markAt_20 : decode cX0_markAt 20 = .ok (.istore_n 3, 1) := by decide +kernel
theorem dX0_markAt_21 : decode cX0_markAt 21 = .ok (.iinc 4 (-1), 3) := by decide +kernel
theorem dX0_markAt_24 : decode cX0_markAt 24 = .ok (.goto (-14), 3) := by decide +kernel
theorem dX0_markAt_27 : decode cX0_markAt 27 = .ok (.iload_n 3, 1) := by decide +kernel
theorem dX0_markAt_28 : decode cX0_markAt 28 = .ok (.bipush 100, 2) := by decide +kernel
theorem dX0_markAt_30 : decode cX0_markAt 30 = .ok (.irem, 1) := by decide +kernel
theorem dX0_markAt_31 : decode cX0_markAt 31 = .ok (.ireturn, 1) := by decide +kernel
theorem dX0_midOf_0 : decode cX0_midOf 0 = .ok (.aload_n 0, 1) := by decide +kernel
theorem dX0_midOf_1 : decode cX0_midOf 1 = .ok (.iload_n 1, 1) := by decide +kernel
theorem dX0_midOf_2 : decode cX0_midOf 2 = .ok (.invokevirtual 70, 3) := by decide +kernel
theorem dX0_midOf_5 : decode cX0_midOf 5 = .ok (.ifCond .eq 19, 3) := by decide +kernel
theorem dX0_midOf_8 : decode cX0_midOf 8 = .ok (.aload_n 0, 1) := by decide +kernel
theorem dX0_midOf_9 : decode cX0_midOf 9 = .ok (.getfield 43, 3) := by decide +kernel
theorem dX0_midOf_12 : decode cX0_midOf 12 = .ok (.iload_n 1, 1) := by decide +kernel
theorem dX0_midOf_13 : decode cX0_midOf 13 = .ok (.iaload, 1) := by decide +kernel
theorem dX0_midOf_14 : decode cX0_midOf 14 = .ok (.aload_n 0, 1) := by decide +kernel
theorem dX0_midOf_15 : decode cX0_midOf 15 = .ok (.getfield 46, 3) := by decide +kernel
theorem dX0_midOf_18 : decode cX0_midOf 18 = .ok (.iload_n 1, 1) := by decide +kernel
theorem dX0_midOf_19 : decode cX0_midOf 19 = .ok (.iaload, 1) := by decide +kernel
theorem dX0_midOf_20 : decode cX0_midOf 20 = .ok (.iadd, 1) := by decide +kernel
theorem dX0_midOf_21 : decode cX0_midOf 21 = .ok (.ifCond .gt 5, 3) := by decide +kernel
theorem dX0_midOf_24 : decode cX0_midOf 24 = .ok (.lconst 0, 1) := by decide +kernel
theorem dX0_midOf_25 : decode cX0_midOf 25 = .ok (.lreturn, 1) := by decide +kernel
theorem dX0_midOf_26 : decode cX0_midOf 26 = .ok (.aload_n 0, 1) := by decide +kernel
theorem dX0_midOf_27 : decode cX0_midOf 27 = .ok (.getfield 19, 3) := by decide +kernel
theorem dX0_midOf_30 : decode cX0_midOf 30 = .ok (.aload_n 0, 1) := by decide +kernel
theorem dX0_midOf_31 : decode cX0_midOf 31 = .ok (.getfield 43, 3) := by decide +kernel
theorem dX0_midOf_34 : decode cX0_midOf 34 = .ok (.iload_n 1, 1) := by decide +kernel
theorem dX0_midOf_35 : decode cX0_midOf 35 = .ok (.iaload, 1) := by decide +kernel
theorem dX0_midOf_36 : decode cX0_midOf 36 = .ok (.imul, 1) := by decide +kernel
theorem dX0_midOf_37 : decode cX0_midOf 37 = .ok (.aload_n 0, 1) := by decide +kernel
theorem dX0_midOf_38 : decode cX0_midOf 38 = .ok (.getfield 43, 3) := by decide +kernel
theorem dX0_midOf_41 : decode cX0_midOf 41 = .ok (.iload_n 1, 1) := by decide +kernel
theorem dX0_midOf_42 : decode cX0_midOf 42 = .ok (.iaload, 1) := by decide +kernel
theorem dX0_midOf_43 : decode cX0_midOf 43 = .ok (.aload_n 0, 1) := by decide +kernel
theorem dX0_midOf_44 : decode cX0_midOf 44 = .ok (.getfield 46, 3) := by decide +kernel
theorem dX0_midOf_47 : decode cX0_midOf 47 = .ok (.iload_n 1, 1) := by decide +kernel
theorem dX0_midOf_48 : decode cX0_midOf 48 = .ok (.iaload, 1) := by decide +kernel
theorem dX0_midOf_49 : decode cX0_midOf 49 = .ok (.iadd, 1) := by decide +kernel
theorem dX0_midOf_50 : decode cX0_midOf 50 = .ok (.idiv, 1) := by decide +kernel
theorem dX0_midOf_51 : decode cX0_midOf 51 = .ok (.i2l, 1) := by decide +kernel
theorem dX0_midOf_52 : decode cX0_midOf 52 = .ok (.lreturn, 1) := by decide +kernel
theorem dX0_meets_0 : decode cX0_meets 0 = .ok (.lload_n 2, 1) := by decide +kernel
theorem dX0_meets_1 : decode cX0_meets 1 = .ok (.lload 4, 2) := by decide +kernel
theorem dX0_meets_3 : decode cX0_meets 3 = .ok (.lload_n 2, 1) := by decide +kernel
theorem dX0_meets_4 : decode cX0_meets 4 = .ok (.lsub, 1) := by decide +kernel
theorem dX0_meets_5 : decode cX0_meets 5 = .ok (.aload_n 0, 1) := by decide +kernel
theorem dX0_meets_6 : decode cX0_meets 6 = .ok (.iload_n 1, 1) := by decide +kernel
theorem dX0_meets_7 : decode cX0_meets 7 = .ok (.invokevirtual 78, 3) := by decide +kernel
theorem dX0_meets_10 : decode cX0_meets 10 = .ok (.lmul, 1) := by decide +kernel
theorem dX0_meets_11 : decode cX0_meets 11 = .ok (.aload_n 0, 1) := by decide +kernel
theorem dX0_meets_12 : decode cX0_meets 12 = .ok (.getfield 19, 3) := by decide +kernel
theorem dX0_meets_15 : decode cX0_meets 15 = .ok (.i2l, 1) := by decide +kernel
theorem dX0_meets_16 : decode cX0_meets 16 = .ok (.invokestatic 82, 3) := by decide +kernel
theorem dX0_meets_19 : decode cX0_meets 19 = .ok (.ladd, 1) := by decide +kernel
theorem dX0_meets_20 : decode cX0_meets 20 = .ok (.lreturn, 1) := by decide +kernel
theorem dX0_sumAt_0 : decode cX0_sumAt 0 = .ok (.aload_n 0, 1) := by decide +kernel
theorem dX0_sumAt_1 : decode cX0_sumAt 1 = .ok (.iload_n 1, 1) := by decide +kernel
theorem dX0_sumAt_2 : decode cX0_sumAt 2 = .ok (.invokevirtual 70, 3) := by decide +kernel
theorem dX0_sumAt_5 : decode cX0_sumAt 5 = .ok (.ifCond .ne 5, 3) := by decide +kernel
theorem dX0_sumAt_8 : decode cX0_sumAt 8 = .ok (.lconst 0, 1) := by decide +kernel
theorem dX0_sumAt_9 : decode cX0_sumAt 9 = .ok (.lreturn, 1) := by decide +kernel
theorem dX0_sumAt_10 : decode cX0_sumAt 10 = .ok (.aload_n 0, 1) := by decide +kernel
theorem dX0_sumAt_11 : decode cX0_sumAt 11 = .ok (.getfield 43, 3) := by decide +kernel
theorem dX0_sumAt_14 : decode cX0_sumAt 14 = .ok (.iload_n 1, 1) := by decide +kernel
theorem dX0_sumAt_15 : decode cX0_sumAt 15 = .ok (.iaload, 1) := by decide +kernel
theorem dX0_sumAt_16 : decode cX0_sumAt 16 = .ok (.i2l, 1) := by decide +kernel
theorem dX0_sumAt_17 : decode cX0_sumAt 17 = .ok (.lstore 4, 2) := by decide +kernel
theorem dX0_sumAt_19 : decode cX0_sumAt 19 = .ok (.aload_n 0, 1) := by decide +kernel
theorem dX0_sumAt_20 : decode cX0_sumAt 20 = .ok (.getfield 46, 3) := by decide +kernel
theorem dX0_sumAt_23 : decode cX0_sumAt 23 = .ok (.iload_n 1, 1) := by decide +kernel
theorem dX0_sumAt_24 : decode cX0_sumAt 24 = .ok (.iaload, 1) := by decide +kernel
theorem dX0_sumAt_25 : decode cX0_sumAt 25 = .ok (.i2l, 1) := by decide +kernel
theorem dX0_sumAt_26 : decode cX0_sumAt 26 = .ok (.lstore 6, 2) := by decide +kernel
theorem dX0_sumAt_28 : decode cX0_sumAt 28 = .ok (.lload_n 2, 1) := by decide +kernel
theorem dX0_sumAt_29 : decode cX0_sumAt 29 = .ok (.lload 4, 2) := by decide +kernel
theorem dX0_sumAt_31 : decode cX0_sumAt 31 = .ok (.lload 6, 2) := by decide +kernel
theorem dX0_sumAt_33 : decode cX0_sumAt 33 = .ok (.ladd, 1) := by decide +kernel
theorem dX0_sumAt_34 : decode cX0_sumAt 34 = .ok (.lmul, 1) := by decide +kernel
theorem dX0_sumAt_35 : decode cX0_sumAt 35 = .ok (.lload 4, 2) := by decide +kernel
theorem dX0_sumAt_37 : decode cX0_sumAt 37 = .ok (.lload 6, 2) := by decide +kernel
theorem dX0_sumAt_39 : decode cX0_sumAt 39 = .ok (.lmul, 1) := by decide +kernel
theorem dX0_sumAt_40 : decode cX0_sumAt 40 = .ok (.invokestatic 82, 3) := by decide +kernel
theorem dX0_sumAt_43 : decode cX0_sumAt 43 = .ok (.lreturn, 1) := by decide +kernel
theorem dX0_lastSumOnFlat_0 : decode cX0_lastSumOnFlat 0 = .ok (.aload_n 1, 1) := by decide +kernel
theorem dX0_lastSumOnFlat_1 : decode cX0_lastSumOnFlat 1 = .ok (.arraylength, 1) := by decide +kernel
theorem dX0_lastSumOnFlat_2 : decode cX0_lastSumOnFlat 2 = .ok (.ifCond .le 9, 3) := by decide +kernel
theorem dX0_lastSumOnFlat_5 : decode cX0_lastSumOnFlat 5 = .ok (.aload_n 1, 1) := by decide +kernel
theorem dX0_lastSumOnFlat_6 : decode cX0_lastSumOnFlat 6 = .ok (.iconst 0, 1) := by decide +kernel
theorem dX0_lastSumOnFlat_7 : decode cX0_lastSumOnFlat 7 = .ok (.laload, 1) := by decide +kernel
theorem dX0_lastSumOnFlat_8 : decode cX0_lastSumOnFlat 8 = .ok (.goto 4, 3) := by decide +kernel
theorem dX0_lastSumOnFlat_11 : decode cX0_lastSumOnFlat 11 = .ok (.lconst 0, 1) := by decide +kernel
theorem dX0_lastSumOnFlat_12 : decode cX0_lastSumOnFlat 12 = .ok (.lstore_n 3, 1) := by decide +kernel
theorem dX0_lastSumOnFlat_13 : decode cX0_lastSumOnFlat 13 = .ok (.iconst 0, 1) := by decide +kernel
theorem dX0_lastSumOnFlat_14 : decode cX0_lastSumOnFlat 14 = .ok (.istore 5, 2) := by decide +kernel
theorem dX0_lastSumOnFlat_16 : decode cX0_lastSumOnFlat 16 = .ok (.iload 5, 2) := by decide +kernel
theorem dX0_lastSumOnFlat_18 : decode cX0_lastSumOnFlat 18 = .ok (.aload_n 0, 1) := by decide +kernel
theorem dX0_lastSumOnFlat_19 : decode cX0_lastSumOnFlat 19 = .ok (.getfield 36, 3) := by decide +kernel
theorem dX0_lastSumOnFlat_22 : decode cX0_lastSumOnFlat 22 = .ok (.if_icmp .ge 59, 3) := by decide +kernel
theorem dX0_lastSumOnFlat_25 : decode cX0_lastSumOnFlat 25 = .ok (.iload 5, 2) := by decide +kernel
theorem dX0_lastSumOnFlat_27 : decode cX0_lastSumOnFlat 27 = .ok (.iconst 1, 1) := by decide +kernel
theorem dX0_lastSumOnFlat_28 : decode cX0_lastSumOnFlat 28 = .ok (.iadd, 1) := by decide +kernel
theorem dX0_lastSumOnFlat_29 : decode cX0_lastSumOnFlat 29 = .ok (.aload_n 1, 1) := by decide +kernel
theorem dX0_lastSumOnFlat_30 : decode cX0_lastSumOnFlat 30 = .ok (.arraylength, 1) := by decide +kernel
theorem dX0_lastSumOnFlat_31 : decode cX0_lastSumOnFlat 31 = .ok (.if_icmp .ge 50, 3) := by decide +kernel
theorem dX0_lastSumOnFlat_34 : decode cX0_lastSumOnFlat 34 = .ok (.aload_n 0, 1) := by decide +kernel
theorem dX0_lastSumOnFlat_35 : decode cX0_lastSumOnFlat 35 = .ok (.iload 5, 2) := by decide +kernel
theorem dX0_lastSumOnFlat_37 : decode cX0_lastSumOnFlat 37 = .ok (.aload_n 0, 1) := by decide +kernel
theorem dX0_lastSumOnFlat_38 : decode cX0_lastSumOnFlat 38 = .ok (.iload 5, 2) := by decide +kernel
theorem dX0_lastSumOnFlat_40 : decode cX0_lastSumOnFlat 40 = .ok (.aload_n 0, 1) := by decide +kernel
theorem dX0_lastSumOnFlat_41 : decode cX0_lastSumOnFlat 41 = .ok (.getfield 43, 3) := by decide +kernel
theorem dX0_lastSumOnFlat_44 : decode cX0_lastSumOnFlat 44 = .ok (.iload 5, 2) := by decide +kernel
theorem dX0_lastSumOnFlat_46 : decode cX0_lastSumOnFlat 46 = .ok (.iaload, 1) := by decide +kernel
theorem dX0_lastSumOnFlat_47 : decode cX0_lastSumOnFlat 47 = .ok (.i2l, 1) := by decide +kernel
theorem dX0_lastSumOnFlat_48 : decode cX0_lastSumOnFlat 48 = .ok (.lload_n 3, 1) := by decide +kernel
theorem dX0_lastSumOnFlat_49 : decode cX0_lastSumOnFlat 49 = .ok (.lmul, 1) := by decide +kernel
theorem dX0_lastSumOnFlat_50 : decode cX0_lastSumOnFlat 50 = .ok (.aload_n 0, 1) := by decide +kernel
theorem dX0_lastSumOnFlat_51 : decode cX0_lastSumOnFlat 51 = .ok (.getfield 46, 3) := by decide +kernel
theorem dX0_lastSumOnFlat_54 : decode cX0_lastSumOnFlat 54 = .ok (.iload 5, 2) := by decide +kernel
theorem dX0_lastSumOnFlat_56 : decode cX0_lastSumOnFlat 56 = .ok (.iaload, 1) := by decide +kernel
theorem dX0_lastSumOnFlat_57 : decode cX0_lastSumOnFlat 57 = .ok (.i2l, 1) := by decide +kernel
theorem dX0_lastSumOnFlat_58 : decode cX0_lastSumOnFlat 58 = .ok (.aload_n 1, 1) := by decide +kernel
theorem dX0_lastSumOnFlat_59 : decode cX0_lastSumOnFlat 59 = .ok (.iload 5, 2) := by decide +kernel
theorem dX0_lastSumOnFlat_61 : decode cX0_lastSumOnFlat 61 = .ok (.iconst 1, 1) := by decide +kernel
theorem dX0_lastSumOnFlat_62 : decode cX0_lastSumOnFlat 62 = .ok (.iadd, 1) := by decide +kernel
theorem dX0_lastSumOnFlat_63 : decode cX0_lastSumOnFlat 63 = .ok (.laload, 1) := by decide +kernel
theorem dX0_lastSumOnFlat_64 : decode cX0_lastSumOnFlat 64 = .ok (.lmul, 1) := by decide +kernel
theorem dX0_lastSumOnFlat_65 : decode cX0_lastSumOnFlat 65 = .ok (.invokevirtual 86, 3) := by decide +kernel
theorem dX0_lastSumOnFlat_68 : decode cX0_lastSumOnFlat 68 = .ok (.iload_n 2, 1) := by decide +kernel
theorem dX0_lastSumOnFlat_69 : decode cX0_lastSumOnFlat 69 = .ok (.i2l, 1) := by decide +kernel
theorem dX0_lastSumOnFlat_70 : decode cX0_lastSumOnFlat 70 = .ok (.ladd, 1) := by decide +kernel
theorem dX0_lastSumOnFlat_71 : decode cX0_lastSumOnFlat 71 = .ok (.invokevirtual 90, 3) := by decide +kernel
theorem dX0_lastSumOnFlat_74 : decode cX0_lastSumOnFlat 74 = .ok (.lstore_n 3, 1) := by decide +kernel
theorem dX0_lastSumOnFlat_75 : decode cX0_lastSumOnFlat 75 = .ok (.iinc 5 1, 3) := by decide +kernel
theorem dX0_lastSumOnFlat_78 : decode cX0_lastSumOnFlat 78 = .ok (.goto (-62), 3) := by decide +kernel
theorem dX0_lastSumOnFlat_81 : decode cX0_lastSumOnFlat 81 = .ok (.lload_n 3, 1) := by decide +kernel
theorem dX0_lastSumOnFlat_82 : decode cX0_lastSumOnFlat 82 = .ok (.lreturn, 1) := by decide +kernel
theorem dX0_tallWith_0 : decode cX0_tallWith 0 = .ok (.aload_n 0, 1) := by decide +kernel
theorem dX0_tallWith_1 : decode cX0_tallWith 1 = .ok (.iload_n 1, 1) := by decide +kernel
theorem dX0_tallWith_2 : decode cX0_tallWith 2 = .ok (.invokevirtual 70, 3) := by decide +kernel
theorem dX0_tallWith_5 : decode cX0_tallWith 5 = .ok (.ifCond .ne 5, 3) := by decide +kernel
theorem dX0_tallWith_8 : decode cX0_tallWith 8 = .ok (.lconst 0, 1) := by decide +kernel
theorem dX0_tallWith_9 : decode cX0_tallWith 9 = .ok (.lreturn, 1) := by decide +kernel
theorem dX0_tallWith_10 : decode cX0_tallWith 10 = .ok (.aload_n 0, 1) := by decide +kernel
theorem dX0_tallWith_11 : decode cX0_tallWith 11 = .ok (.getfield 9, 3) := by decide +kernel
theorem dX0_tallWith_14 : decode cX0_tallWith 14 = .ok (.aload_n 0, 1) := by decide +kernel
theorem dX0_tallWith_15 : decode cX0_tallWith 15 = .ok (.getfield 39, 3) := by decide +kernel
theorem dX0_tallWith_18 : decode cX0_tallWith 18 = .ok (.iload_n 1, 1) := by decide +kernel
theorem dX0_tallWith_19 : decode cX0_tallWith 19 = .ok (.iconst 1, 1) := by decide +kernel
theorem dX0_tallWith_20 : decode cX0_tallWith 20 = .ok (.iadd, 1) := by decide +kernel
theorem dX0_tallWith_21 : decode cX0_tallWith 21 = .ok (.iaload, 1) := by decide +kernel
theorem dX0_tallWith_22 : decode cX0_tallWith 22 = .ok (.invokevirtual 63, 3) := by decide +kernel
theorem dX0_tallWith_25 : decode cX0_tallWith 25 = .ok (.i2l, 1) := by decide +kernel
theorem dX0_tallWith_26 : decode cX0_tallWith 26 = .ok (.lstore 4, 2) := by decide +kernel
theorem dX0_tallWith_28 : decode cX0_tallWith 28 = .ok (.aload_n 0, 1) := by decide +kernel
theorem dX0_tallWith_29 : decode cX0_tallWith 29 = .ok (.getfield 9, 3) := by decide +kernel
theorem dX0_tallWith_32 : decode cX0_tallWith 32 = .ok (.aload_n 0, 1) := by decide +kernel
theorem dX0_tallWith_33 : decode cX0_tallWith 33 = .ok (.getfield 39, 3) := by decide +kernel
theorem dX0_tallWith_36 : decode cX0_tallWith 36 = .ok (.iload_n 1, 1) := by decide +kernel
theorem dX0_tallWith_37 : decode cX0_tallWith 37 = .ok (.iconst 1, 1) := by decide +kernel
theorem dX0_tallWith_38 : decode cX0_tallWith 38 = .ok (.iadd, 1) := by decide +kernel
theorem dX0_tallWith_39 : decode cX0_tallWith 39 = .ok (.iaload, 1) := by decide +kernel
theorem dX0_tallWith_40 : decode cX0_tallWith 40 = .ok (.invokevirtual 67, 3) := by decide +kernel
theorem dX0_tallWith_43 : decode cX0_tallWith 43 = .ok (.i2l, 1) := by decide +kernel
theorem dX0_tallWith_44 : decode cX0_tallWith 44 = .ok (.lstore 6, 2) := by decide +kernel
theorem dX0_tallWith_46 : decode cX0_tallWith 46 = .ok (.iload_n 2, 1) := by decide +kernel
theorem dX0_tallWith_47 : decode cX0_tallWith 47 = .ok (.i2l, 1) := by decide +kernel
theorem dX0_tallWith_48 : decode cX0_tallWith 48 = .ok (.aload_n 0, 1) := by decide +kernel
theorem dX0_tallWith_49 : decode cX0_tallWith 49 = .ok (.getfield 49, 3) := by decide +kernel
theorem dX0_tallWith_52 : decode cX0_tallWith 52 = .ok (.iload_n 1, 1) := by decide +kernel
theorem dX0_tallWith_53 : decode cX0_tallWith 53 = .ok (.laload, 1) := by decide +kernel
theorem dX0_tallWith_54 : decode cX0_tallWith 54 = .ok (.lmul, 1) := by decide +kernel
theorem dX0_tallWith_55 : decode cX0_tallWith 55 = .ok (.iload_n 3, 1) := by decide +kernel
theorem dX0_tallWith_56 : decode cX0_tallWith 56 = .ok (.i2l, 1) := by decide +kernel
theorem dX0_tallWith_57 : decode cX0_tallWith 57 = .ok (.lload 4, 2) := by decide +kernel
theorem dX0_tallWith_59 : decode cX0_tallWith 59 = .ok (.lmul, 1) := by decide +kernel
theorem dX0_tallWith_60 : decode cX0_tallWith 60 = .ok (.invokestatic 94, 3) := by decide +kernel
theorem dX0_tallWith_63 : decode cX0_tallWith 63 = .ok (.lstore 8, 2) := by decide +kernel
theorem dX0_tallWith_65 : decode cX0_tallWith 65 = .ok (.lload 8, 2) := by decide +kernel
theorem dX0_tallWith_67 : decode cX0_tallWith 67 = .ok (.aload_n 0, 1) := by decide +kernel
theorem dX0_tallWith_68 : decode cX0_tallWith 68 = .ok (.getfield 49, 3) := by decide +kernel
theorem dX0_tallWith_71 : decode cX0_tallWith 71 = .ok (.iload_n 1, 1) := by decide +kernel
theorem dX0_tallWith_72 : decode cX0_tallWith 72 = .ok (.iconst 1, 1) := by decide +kernel
theorem dX0_tallWith_73 : decode cX0_tallWith 73 = .ok (.iadd, 1) := by decide +kernel
theorem dX0_tallWith_74 : decode cX0_tallWith 74 = .ok (.laload, 1) := by decide +kernel
theorem dX0_tallWith_75 : decode cX0_tallWith 75 = .ok (.iload_n 2, 1) := by decide +kernel
theorem dX0_tallWith_76 : decode cX0_tallWith 76 = .ok (.i2l, 1) := by decide +kernel
theorem dX0_tallWith_77 : decode cX0_tallWith 77 = .ok (.iload_n 3, 1) := by decide +kernel
theorem dX0_tallWith_78 : decode cX0_tallWith 78 = .ok (.i2l, 1) := by decide +kernel
theorem dX0_tallWith_79 : decode cX0_tallWith 79 = .ok (.invokestatic 96, 3) := by decide +kernel
theorem dX0_tallWith_82 : decode cX0_tallWith 82 = .ok (.invokestatic 94, 3) := by decide +kernel
theorem dX0_tallWith_85 : decode cX0_tallWith 85 = .ok (.lstore 8, 2) := by decide +kernel
theorem dX0_tallWith_87 : decode cX0_tallWith 87 = .ok (.iload_n 2, 1) := by decide +kernel
theorem dX0_tallWith_88 : decode cX0_tallWith 88 = .ok (.i2l, 1) := by decide +kernel
theorem dX0_tallWith_89 : decode cX0_tallWith 89 = .ok (.aload_n 0, 1) := by decide +kernel
theorem dX0_tallWith_90 : decode cX0_tallWith 90 = .ok (.getfield 53, 3) := by decide +kernel
theorem dX0_tallWith_93 : decode cX0_tallWith 93 = .ok (.iload_n 1, 1) := by decide +kernel
theorem dX0_tallWith_94 : decode cX0_tallWith 94 = .ok (.laload, 1) := by decide +kernel
theorem dX0_tallWith_95 : decode cX0_tallWith 95 = .ok (.lmul, 1) := by decide +kernel
theorem dX0_tallWith_96 : decode cX0_tallWith 96 = .ok (.iload_n 3, 1) := by decide +kernel
theorem dX0_tallWith_97 : decode cX0_tallWith 97 = .ok (.i2l, 1) := by decide +kernel
theorem dX0_tallWith_98 : decode cX0_tallWith 98 = .ok (.lload 6, 2) := by decide +kernel
theorem dX0_tallWith_100 : decode cX0_tallWith 100 = .ok (.lmul, 1) := by decide +kernel
theorem dX0_tallWith_101 : decode cX0_tallWith 101 = .ok (.invokestatic 100, 3) := by decide +kernel
theorem dX0_tallWith_104 : decode cX0_tallWith 104 = .ok (.lstore 10, 2) := by decide +kernel
theorem dX0_tallWith_106 : decode cX0_tallWith 106 = .ok (.lload 10, 2) := by decide +kernel
theorem dX0_tallWith_108 : decode cX0_tallWith 108 = .ok (.aload_n 0, 1) := by decide +kernel
theorem dX0_tallWith_109 : decode cX0_tallWith 109 = .ok (.getfield 53, 3) := by decide +kernel
theorem dX0_tallWith_112 : decode cX0_tallWith 112 = .ok (.iload_n 1, 1) := by decide +kernel
theorem dX0_tallWith_113 : decode cX0_tallWith 113 = .ok (.iconst 1, 1) := by decide +kernel
theorem dX0_tallWith_114 : decode cX0_tallWith 114 = .ok (.iadd, 1) := by decide +kernel
theorem dX0_tallWith_115 : decode cX0_tallWith 115 = .ok (.laload, 1) := by decide +kernel
theorem dX0_tallWith_116 : decode cX0_tallWith 116 = .ok (.iload_n 2, 1) := by decide +kernel
theorem dX0_tallWith_117 : decode cX0_tallWith 117 = .ok (.i2l, 1) := by decide +kernel
theorem dX0_tallWith_118 : decode cX0_tallWith 118 = .ok (.iload_n 3, 1) := by decide +kernel
theorem dX0_tallWith_119 : decode cX0_tallWith 119 = .ok (.i2l, 1) := by decide +kernel
theorem dX0_tallWith_120 : decode cX0_tallWith 120 = .ok (.invokestatic 96, 3) := by decide +kernel
theorem dX0_tallWith_123 : decode cX0_tallWith 123 = .ok (.invokestatic 100, 3) := by decide +kernel
theorem dX0_tallWith_126 : decode cX0_tallWith 126 = .ok (.lstore 10, 2) := by decide +kernel
theorem dX0_tallWith_128 : decode cX0_tallWith 128 = .ok (.lload 10, 2) := by decide +kernel
theorem dX0_tallWith_130 : decode cX0_tallWith 130 = .ok (.lload 8, 2) := by decide +kernel
theorem dX0_tallWith_132 : decode cX0_tallWith 132 = .ok (.lsub, 1) := by decide +kernel
theorem dX0_tallWith_133 : decode cX0_tallWith 133 = .ok (.lreturn, 1) := by decide +kernel
theorem dX0_middleOf_0 : decode cX0_middleOf 0 = .ok (.lload_n 0, 1) := by decide +kernel
theorem dX0_middleOf_1 : decode cX0_middleOf 1 = .ok (.lload_n 2, 1) := by decide +kernel
theorem dX0_middleOf_2 : decode cX0_middleOf 2 = .ok (.lmul, 1) := by decide +kernel
theorem dX0_middleOf_3 : decode cX0_middleOf 3 = .ok (.lload 4, 2) := by decide +kernel
theorem dX0_middleOf_5 : decode cX0_middleOf 5 = .ok (.lmul, 1) := by decide +kernel
theorem dX0_middleOf_6 : decode cX0_middleOf 6 = .ok (.lload_n 2, 1) := by decide +kernel
theorem dX0_middleOf_7 : decode cX0_middleOf 7 = .ok (.lload 4, 2) := by decide +kernel
theorem dX0_middleOf_9 : decode cX0_middleOf 9 = .ok (.ladd, 1) := by decide +kernel
theorem dX0_middleOf_10 : decode cX0_middleOf 10 = .ok (.invokestatic 82, 3) := by decide +kernel
theorem dX0_middleOf_13 : decode cX0_middleOf 13 = .ok (.lreturn, 1) := by decide +kernel
theorem dX0_finestOf_0 : decode cX0_finestOf 0 = .ok (.iconst 0, 1) := by decide +kernel
theorem dX0_finestOf_1 : decode cX0_finestOf 1 = .ok (.istore 5, 2) := by decide +kernel
theorem dX0_finestOf_3 : decode cX0_finestOf 3 = .ok (.iconst 0, 1) := by decide +kernel
theorem dX0_finestOf_4 : decode cX0_finestOf 4 = .ok (.istore 6, 2) := by decide +kernel
theorem dX0_finestOf_6 : decode cX0_finestOf 6 = .ok (.iload 4, 2) := by decide +kernel
theorem dX0_finestOf_8 : decode cX0_finestOf 8 = .ok (.aload_n 3, 1) := by decide +kernel
theorem dX0_finestOf_9 : decode cX0_finestOf 9 = .ok (.arraylength, 1) := by decide +kernel
theorem dX0_finestOf_10 : decode cX0_finestOf 10 = .ok (.invokestatic 27, 3) := by decide +kernel
theorem dX0_finestOf_13 : decode cX0_finestOf 13 = .ok (.istore 7, 2) := by decide +kernel
theorem dX0_finestOf_15 : decode cX0_finestOf 15 = .ok (.iconst 0, 1) := by decide +kernel
theorem dX0_finestOf_16 : decode cX0_finestOf 16 = .ok (.istore 8, 2) := by decide +kernel
theorem dX0_finestOf_18 : decode cX0_finestOf 18 = .ok (.iload 8, 2) := by decide +kernel
theorem dX0_finestOf_20 : decode cX0_finestOf 20 = .ok (.iload 7, 2) := by decide +kernel
theorem dX0_finestOf_22 : decode cX0_finestOf 22 = .ok (.if_icmp .ge 101, 3) := by decide +kernel
theorem dX0_finestOf_25 : decode cX0_finestOf 25 = .ok (.iconst 0, 1) := by decide +kernel
theorem dX0_finestOf_26 : decode cX0_finestOf 26 = .ok (.istore 9, 2) := by decide +kernel
theorem dX0_finestOf_28 : decode cX0_finestOf 28 = .ok (.iload 9, 2) := by decide +kernel
theorem dX0_finestOf_30 : decode cX0_finestOf 30 = .ok (.iload 7, 2) := by decide +kernel
theorem dX0_finestOf_32 : decode cX0_finestOf 32 = .ok (.if_icmp .ge 85, 3) := by decide +kernel
theorem dX0_finestOf_35 : decode cX0_finestOf 35 = .ok (.iload 5, 2) := by decide +kernel
theorem dX0_finestOf_37 : decode cX0_finestOf 37 = .ok (.ifCond .eq 31, 3) := by decide +kernel
theorem dX0_finestOf_40 : decode cX0_finestOf 40 = .ok (.iload_n 1, 1) := by decide +kernel
theorem dX0_finestOf_41 : decode cX0_finestOf 41 = .ok (.aload_n 0, 1) := by decide +kernel
theorem dX0_finestOf_42 : decode cX0_finestOf 42 = .ok (.getfield 36, 3) := by decide +kernel
theorem dX0_finestOf_45 : decode cX0_finestOf 45 = .ok (.iconst 1, 1) := by decide +kernel
theorem dX0_finestOf_46 : decode cX0_finestOf 46 = .ok (.isub, 1) := by decide +kernel
theorem dX0_finestOf_47 : decode cX0_finestOf 47 = .ok (.if_icmp .ne 25, 3) := by decide +kernel
theorem dX0_finestOf_50 : decode cX0_finestOf 50 = .ok (.aload_n 3, 1) := by decide +kernel
theorem dX0_finestOf_51 : decode cX0_finestOf 51 = .ok (.iload 8, 2) := by decide +kernel
theorem dX0_finestOf_53 : decode cX0_finestOf 53 = .ok (.iaload, 1) := by decide +kernel
theorem dX0_finestOf_54 : decode cX0_finestOf 54 = .ok (.aload_n 3, 1) := by decide +kernel
theorem dX0_finestOf_55 : decode cX0_finestOf 55 = .ok (.iload 9, 2) := by decide +kernel
theorem dX0_finestOf_57 : decode cX0_finestOf 57 = .ok (.iaload, 1) := by decide +kernel
theorem dX0_finestOf_58 : decode cX0_finestOf 58 = .ok (.iload 5, 2) := by decide +kernel
theorem dX0_finestOf_60 : decode cX0_finestOf 60 = .ok (.iload 6, 2) := by decide +kernel
theorem dX0_finestOf_62 : decode cX0_finestOf 62 = .ok (.invokestatic 103, 3) := by decide +kernel
theorem dX0_finestOf_65 : decode cX0_finestOf 65 = .ok (.ifCond .eq 7, 3) := by decide +kernel
theorem dX0_finestOf_68 : decode cX0_finestOf 68 = .ok (.iconst 1, 1) := by decide +kernel
theorem dX0_finestOf_69 : decode cX0_finestOf 69 = .ok (.goto 4, 3) := by decide +kernel
theorem dX0_finestOf_72 : decode cX0_finestOf 72 = .ok (.iconst 0, 1) := by decide +kernel
theorem dX0_finestOf_73 : decode cX0_finestOf 73 = .ok (.istore 10, 2) := by decide +kernel
theorem dX0_finestOf_75 : decode cX0_finestOf 75 = .ok (.iload 10, 2) := by decide +kernel
theorem dX0_finestOf_77 : decode cX0_finestOf 77 = .ok (.ifCond .eq 34, 3) := by decide +kernel
theorem dX0_finestOf_80 : decode cX0_finestOf 80 = .ok (.aload_n 0, 1) := by decide +kernel
theorem dX0_finestOf_81 : decode cX0_finestOf 81 = .ok (.iload_n 1, 1) := by decide +kernel
theorem dX0_finestOf_82 : decode cX0_finestOf 82 = .ok (.aload_n 3, 1) := by decide +kernel
theorem dX0_finestOf_83 : decode cX0_finestOf 83 = .ok (.iload 8, 2) := by decide +kernel
theorem dX0_finestOf_85 : decode cX0_finestOf 85 = .ok (.iaload, 1) := by decide +kernel
theorem dX0_finestOf_86 : decode cX0_finestOf 86 = .ok (.aload_n 3, 1) := by decide +kernel
theorem dX0_finestOf_87 : decode cX0_finestOf 87 = .ok (.iload 9, 2) := by decide +kernel
theorem dX0_finestOf_89 : decode cX0_finestOf 89 = .ok (.iaload, 1) := by decide +kernel
theorem dX0_finestOf_90 : decode cX0_finestOf 90 = .ok (.invokevirtual 107, 3) := by decide +kernel
theorem dX0_finestOf_93 : decode cX0_finestOf 93 = .ok (.iload_n 2, 1) := by decide +kernel
theorem dX0_finestOf_94 : decode cX0_finestOf 94 = .ok (.i2l, 1) := by decide +kernel
theorem dX0_finestOf_95 : decode cX0_finestOf 95 = .ok (.lcmp, 1) := by decide +kernel
theorem dX0_finestOf_96 : decode cX0_finestOf 96 = .ok (.ifCond .gt 15, 3) := by decide +kernel
theorem dX0_finestOf_99 : decode cX0_finestOf 99 = .ok (.aload_n 3, 1) := by decide +kernel
theorem dX0_finestOf_100 : decode cX0_finestOf 100 = .ok (.iload 8, 2) := by decide +kernel
theorem dX0_finestOf_102 : decode cX0_finestOf 102 = .ok (.iaload, 1) := by decide +kernel
theorem dX0_finestOf_103 : decode cX0_finestOf 103 = .ok (.istore 5, 2) := by decide +kernel
theorem dX0_finestOf_105 : decode cX0_finestOf 105 = .ok (.aload_n 3, 1) := by decide +kernel
theorem dX0_finestOf_106 : decode cX0_finestOf 106 = .ok (.iload 9, 2) := by decide +kernel
theorem dX0_finestOf_108 : decode cX0_finestOf 108 = .ok (.iaload, 1) := by decide +kernel
theorem dX0_finestOf_109 : decode cX0_finestOf 109 = .ok (.istore 6, 2) := by decide +kernel
theorem dX0_finestOf_111 : decode cX0_finestOf 111 = .ok (.iinc 9 1, 3) := by decide +kernel
theorem dX0_finestOf_114 : decode cX0_finestOf 114 = .ok (.goto (-86), 3) := by decide +kernel
theorem dX0_finestOf_117 : decode cX0_finestOf 117 = .ok (.iinc 8 1, 3) := by decide +kernel
theorem dX0_finestOf_120 : decode cX0_finestOf 120 = .ok (.goto (-102), 3) := by decide +kernel
theorem dX0_finestOf_123 : decode cX0_finestOf 123 = .ok (.iload 5, 2) := by decide +kernel
theorem dX0_finestOf_125 : decode cX0_finestOf 125 = .ok (.ifCond .ne 7, 3) := by decide +kernel
theorem dX0_finestOf_128 : decode cX0_finestOf 128 = .ok (.iconst (-1), 1) := by decide +kernel
theorem dX0_finestOf_129 : decode cX0_finestOf 129 = .ok (.goto 11, 3) := by decide +kernel
theorem dX0_finestOf_132 : decode cX0_finestOf 132 = .ok (.iload 5, 2) := by decide +kernel
theorem dX0_finestOf_134 : decode cX0_finestOf 134 = .ok (.bipush 100, 2) := by decide +kernel
theorem dX0_finestOf_136 : decode cX0_finestOf 136 = .ok (.imul, 1) := by decide +kernel
theorem dX0_finestOf_137 : decode cX0_finestOf 137 = .ok (.iload 6, 2) := by decide +kernel
theorem dX0_finestOf_139 : decode cX0_finestOf 139 = .ok (.iadd, 1) := by decide +kernel
theorem dX0_finestOf_140 : decode cX0_finestOf 140 = .ok (.ireturn, 1) := by decide +kernel
theorem dX0_isFiner_0 : decode cX0_isFiner 0 = .ok (.iload_n 0, 1) := by decide +kernel
theorem dX0_isFiner_1 : decode cX0_isFiner 1 = .ok (.iload_n 1, 1) := by decide +kernel
theorem dX0_isFiner_2 : decode cX0_isFiner 2 = .ok (.imul, 1) := by decide +kernel
theorem dX0_isFiner_3 : decode cX0_isFiner 3 = .ok (.iload_n 2, 1) := by decide +kernel
theorem dX0_isFiner_4 : decode cX0_isFiner 4 = .ok (.iload_n 3, 1) := by decide +kernel
theorem dX0_isFiner_5 : decode cX0_isFiner 5 = .ok (.iadd, 1) := by decide +kernel
theorem dX0_isFiner_6 : decode cX0_isFiner 6 = .ok (.imul, 1) := by decide +kernel
theorem dX0_isFiner_7 : decode cX0_isFiner 7 = .ok (.iload_n 2, 1) := by decide +kernel
theorem dX0_isFiner_8 : decode cX0_isFiner 8 = .ok (.iload_n 3, 1) := by decide +kernel
theorem dX0_isFiner_9 : decode cX0_isFiner 9 = .ok (.imul, 1) := by decide +kernel
theorem dX0_isFiner_10 : decode cX0_isFiner 10 = .ok (.iload_n 0, 1) := by decide +kernel
theorem dX0_isFiner_11 : decode cX0_isFiner 11 = .ok (.iload_n 1, 1) := by decide +kernel
theorem dX0_isFiner_12 : decode cX0_isFiner 12 = .ok (.iadd, 1) := by decide +kernel
theorem dX0_isFiner_13 : decode cX0_isFiner 13 = .ok (.imul, 1) := by decide +kernel
theorem dX0_isFiner_14 : decode cX0_isFiner 14 = .ok (.if_icmp .le 7, 3) := by decide +kernel
theorem dX0_isFiner_17 : decode cX0_isFiner 17 = .ok (.iconst 1, 1) := by decide +kernel
theorem dX0_isFiner_18 : decode cX0_isFiner 18 = .ok (.goto 4, 3) := by decide +kernel
theorem dX0_isFiner_21 : decode cX0_isFiner 21 = .ok (.iconst 0, 1) := by decide +kernel
theorem dX0_isFiner_22 : decode cX0_isFiner 22 = .ok (.ireturn, 1) := by decide +kernel
theorem dX1_init_0 : decode cX1_init 0 = .ok (.aload_n 0, 1) := by decide +kernel
theorem dX1_init_1 : decode cX1_init 1 = .ok (.invokespecial 3, 3) := by decide +kernel
theorem dX1_init_4 : decode cX1_init 4 = .ok (.aload_n 0, 1) := by decide +kernel
theorem dX1_init_5 : decode cX1_init 5 = .ok (.bipush 40, 2) := by decide +kernel
theorem dX1_init_7 : decode cX1_init 7 = .ok (.newarray .int, 2) := by decide +kernel
theorem dX1_init_9 : decode cX1_init 9 = .ok (.putfield 9, 3) := by decide +kernel
theorem dX1_init_12 : decode cX1_init 12 = .ok (.aload_n 0, 1) := by decide +kernel
theorem dX1_init_13 : decode cX1_init 13 = .ok (.bipush 40, 2) := by decide +kernel
theorem dX1_init_15 : decode cX1_init 15 = .ok (.newarray .int, 2) := by decide +kernel
theorem dX1_init_17 : decode cX1_init 17 = .ok (.putfield 15, 3) := by decide +kernel
theorem dX1_init_20 : decode cX1_init 20 = .ok (.aload_n 0, 1) := by decide +kernel
theorem dX1_init_21 : decode cX1_init 21 = .ok (.bipush 40, 2) := by decide +kernel
theorem dX1_init_23 : decode cX1_init 23 = .ok (.newarray .int, 2) := by decide +kernel
theorem dX1_init_25 : decode cX1_init 25 = .ok (.putfield 18, 3) := by decide +kernel
theorem dX1_init_28 : decode cX1_init 28 = .ok (.aload_n 0, 1) := by decide +kernel
theorem dX1_init_29 : decode cX1_init 29 = .ok (.bipush 40, 2) := by decide +kernel
theorem dX1_init_31 : decode cX1_init 31 = .ok (.newarray .int, 2) := by decide +kernel
theorem dX1_init_33 : decode cX1_init 33 = .ok (.putfield 21, 3) := by decide +kernel
theorem dX1_init_36 : decode cX1_init 36 = .ok (.aload_n 0, 1) := by decide +kernel
theorem dX1_init_37 : decode cX1_init 37 = .ok (.bipush 40, 2) := by decide +kernel
theorem dX1_init_39 : decode cX1_init 39 = .ok (.newarray .int, 2) := by decide +kernel
theorem dX1_init_41 : decode cX1_init 41 = .ok (.putfield 24, 3) := by decide +kernel
theorem dX1_init_44 : decode cX1_init 44 = .ok (.return_, 1) := by decide +kernel
theorem dX1_isFull_0 : decode cX1_isFull 0 = .ok (.aload_n 0, 1) := by decide +kernel
theorem dX1_isFull_1 : decode cX1_isFull 1 = .ok (.getfield 27, 3) := by decide +kernel
theorem dX1_isFull_4 : decode cX1_isFull 4 = .ok (.bipush 40, 2) := by decide +kernel
theorem dX1_isFull_6 : decode cX1_isFull 6 = .ok (.if_icmp .lt 7, 3) := by decide +kernel
theorem dX1_isFull_9 : decode cX1_isFull 9 = .ok (.iconst 1, 1) := by decide +kernel
theorem dX1_isFull_10 : decode cX1_isFull 10 = .ok (.goto 4, 3) := by decide +kernel
theorem dX1_isFull_13 : decode cX1_isFull 13 = .ok (.iconst 0, 1) := by decide +kernel
theorem dX1_isFull_14 : decode cX1_isFull 14 = .ok (.ireturn, 1) := by decide +kernel
theorem dX1_add_0 : decode cX1_add 0 = .ok (.aload_n 0, 1) := by decide +kernel
theorem dX1_add_1 : decode cX1_add 1 = .ok (.invokevirtual 31, 3) := by decide +kernel
theorem dX1_add_4 : decode cX1_add 4 = .ok (.ifCond .eq 4, 3) := by decide +kernel
theorem dX1_add_7 : decode cX1_add 7 = .ok (.return_, 1) := by decide +kernel
theorem dX1_add_8 : decode cX1_add 8 = .ok (.aload_n 0, 1) := by decide +kernel
theorem dX1_add_9 : decode cX1_add 9 = .ok (.getfield 9, 3) := by decide +kernel
theorem dX1_add_12 : decode cX1_add 12 = .ok (.aload_n 0, 1) := by decide +kernel
theorem dX1_add_13 : decode cX1_add 13 = .ok (.getfield 27, 3) := by decide +kernel
theorem dX1_add_16 : decode cX1_add 16 = .ok (.iload_n 1, 1) := by decide +kernel
theorem dX1_add_17 : decode cX1_add 17 = .ok (.iastore, 1) := by decide +kernel
theorem dX1_add_18 : decode cX1_add 18 = .ok (.aload_n 0, 1) := by decide +kernel
theorem dX1_add_19 : decode cX1_add 19 = .ok (.getfield 15, 3) := by decide +kernel
theorem dX1_add_22 : decode cX1_add 22 = .ok (.aload_n 0, 1) := by decide +kernel
theorem dX1_add_23 : decode cX1_add 23 = .ok (.getfield 27, 3) := by decide +kernel
theorem dX1_add_26 : decode cX1_add 26 = .ok (.iload_n 2, 1) := by decide +kernel
theorem dX1_add_27 : decode cX1_add 27 = .ok (.iastore, 1) := by decide +kernel
theorem dX1_add_28 : decode cX1_add 28 = .ok (.aload_n 0, 1) := by decide +kernel
theorem dX1_add_29 : decode cX1_add 29 = .ok (.getfield 18, 3) := by decide +kernel
theorem dX1_add_32 : decode cX1_add 32 = .ok (.aload_n 0, 1) := by decide +kernel
theorem dX1_add_33 : decode cX1_add 33 = .ok (.getfield 27, 3) := by decide +kernel
theorem dX1_add_36 : decode cX1_add 36 = .ok (.iload_n 3, 1) := by decide +kernel
theorem dX1_add_37 : decode cX1_add 37 = .ok (.iastore, 1) := by decide +kernel
theorem dX1_add_38 : decode cX1_add 38 = .ok (.aload_n 0, 1) := by decide +kernel
theorem dX1_add_39 : decode cX1_add 39 = .ok (.getfield 21, 3) := by decide +kernel
theorem dX1_add_42 : decode cX1_add 42 = .ok (.aload_n 0, 1) := by decide +kernel
theorem dX1_add_43 : decode cX1_add 43 = .ok (.getfield 27, 3) := by decide +kernel
theorem dX1_add_46 : decode cX1_add 46 = .ok (.iload 4, 2) := by decide +kernel
theorem dX1_add_48 : decode cX1_add 48 = .ok (.iastore, 1) := by decide +kernel
theorem dX1_add_49 : decode cX1_add 49 = .ok (.aload_n 0, 1) := by decide +kernel
theorem dX1_add_50 : decode cX1_add 50 = .ok (.getfield 24, 3) := by decide +kernel
theorem dX1_add_53 : decode cX1_add 53 = .ok (.aload_n 0, 1) := by decide +kernel
theorem dX1_add_54 : decode cX1_add 54 = .ok (.getfield 27, 3) := by decide +kernel
theorem dX1_add_57 : decode cX1_add 57 = .ok (.iload 5, 2) := by decide +kernel
theorem dX1_add_59 : decode cX1_add 59 = .ok (.iastore, 1) := by decide +kernel
theorem dX1_add_60 : decode cX1_add 60 = .ok (.aload_n 0, 1) := by decide +kernel
theorem dX1_add_61 : decode cX1_add 61 = .ok (.dup, 1) := by decide +kernel
theorem dX1_add_62 : decode cX1_add 62 = .ok (.getfield 27, 3) := by decide +kernel
theorem dX1_add_65 : decode cX1_add 65 = .ok (.iconst 1, 1) := by decide +kernel
theorem dX1_add_66 : decode cX1_add 66 = .ok (.iadd, 1) := by decide +kernel
theorem dX1_add_67 : decode cX1_add 67 = .ok (.putfield 27, 3) := by decide +kernel
theorem dX1_add_70 : decode cX1_add 70 = .ok (.return_, 1) := by decide +kernel
theorem dX1_numberOn_0 : decode cX1_numberOn 0 = .ok (.aload_n 0, 1) := by decide +kernel
theorem dX1_numberOn_1 : decode cX1_numberOn 1 = .ok (.getfield 27, 3) := by decide +kernel
theorem dX1_numberOn_4 : decode cX1_numberOn 4 = .ok (.iconst 1, 1) := by decide +kernel
theorem dX1_numberOn_5 : decode cX1_numberOn 5 = .ok (.isub, 1) := by decide +kernel
theorem dX1_numberOn_6 : decode cX1_numberOn 6 = .ok (.istore 5, 2) := by decide +kernel
theorem dX1_numberOn_8 : decode cX1_numberOn 8 = .ok (.iload 5, 2) := by decide +kernel
theorem dX1_numberOn_10 : decode cX1_numberOn 10 = .ok (.ifCond .lt 62, 3) := by decide +kernel
theorem dX1_numberOn_13 : decode cX1_numberOn 13 = .ok (.aload_n 0, 1) := by decide +kernel
theorem dX1_numberOn_14 : decode cX1_numberOn 14 = .ok (.getfield 24, 3) := by decide +kernel
theorem dX1_numberOn_17 : decode cX1_numberOn 17 = .ok (.iload 5, 2) := by decide +kernel
theorem dX1_numberOn_19 : decode cX1_numberOn 19 = .ok (.iaload, 1) := by decide +kernel
theorem dX1_numberOn_20 : decode cX1_numberOn 20 = .ok (.iload_n 1, 1) := by decide +kernel
theorem dX1_numberOn_21 : decode cX1_numberOn 21 = .ok (.if_icmp .gt 45, 3) := by decide +kernel
theorem dX1_numberOn_24 : decode cX1_numberOn 24 = .ok (.aload_n 0, 1) := by decide +kernel
theorem dX1_numberOn_25 : decode cX1_numberOn 25 = .ok (.getfield 9, 3) := by decide +kernel
theorem dX1_numberOn_28 : decode cX1_numberOn 28 = .ok (.iload 5, 2) := by decide +kernel
theorem dX1_numberOn_30 : decode cX1_numberOn 30 = .ok (.iaload, 1) := by decide +kernel
theorem dX1_numberOn_31 : decode cX1_numberOn 31 = .ok (.iload_n 2, 1) := by decide +kernel
theorem dX1_numberOn_32 : decode cX1_numberOn 32 = .ok (.if_icmp .ne 34, 3) := by decide +kernel
theorem dX1_numberOn_35 : decode cX1_numberOn 35 = .ok (.aload_n 0, 1) := by decide +kernel
theorem dX1_numberOn_36 : decode cX1_numberOn 36 = .ok (.getfield 15, 3) := by decide +kernel
theorem dX1_numberOn_39 : decode cX1_numberOn 39 = .ok (.iload 5, 2) := by decide +kernel
theorem dX1_numberOn_41 : decode cX1_numberOn 41 = .ok (.iaload, 1) := by decide +kernel
theorem dX1_numberOn_42 : decode cX1_numberOn 42 = .ok (.iload_n 3, 1) := by decide +kernel
theorem dX1_numberOn_43 : decode cX1_numberOn 43 = .ok (.if_icmp .ne 23, 3) := by decide +kernel
theorem dX1_numberOn_46 : decode cX1_numberOn 46 = .ok (.aload_n 0, 1) := by decide +kernel
theorem dX1_numberOn_47 : decode cX1_numberOn 47 = .ok (.getfield 18, 3) := by decide +kernel
theorem dX1_numberOn_50 : decode cX1_numberOn 50 = .ok (.iload 5, 2) := by decide +kernel
theorem dX1_numberOn_52 : decode cX1_numberOn 52 = .ok (.iaload, 1) := by decide +kernel
theorem dX1_numberOn_53 : decode cX1_numberOn 53 = .ok (.iload 4, 2) := by decide +kernel
theorem dX1_numberOn_55 : decode cX1_numberOn 55 = .ok (.if_icmp .ne 11, 3) := by decide +kernel
theorem dX1_numberOn_58 : decode cX1_numberOn 58 = .ok (.aload_n 0, 1) := by decide +kernel
theorem dX1_numberOn_59 : decode cX1_numberOn 59 = .ok (.getfield 21, 3) := by decide +kernel
theorem dX1_numberOn_62 : decode cX1_numberOn 62 = .ok (.iload 5, 2) := by decide +kernel
theorem dX1_numberOn_64 : decode cX1_numberOn 64 = .ok (.iaload, 1) := by decide +kernel
theorem dX1_numberOn_65 : decode cX1_numberOn 65 = .ok (.ireturn, 1) := by decide +kernel
theorem dX1_numberOn_66 : decode cX1_numberOn 66 = .ok (.iinc 5 (-1), 3) := by decide +kernel
theorem dX1_numberOn_69 : decode cX1_numberOn 69 = .ok (.goto (-61), 3) := by decide +kernel
theorem dX1_numberOn_72 : decode cX1_numberOn 72 = .ok (.ldc 35, 2) := by decide +kernel
theorem dX1_numberOn_74 : decode cX1_numberOn 74 = .ok (.ireturn, 1) := by decide +kernel
theorem dX2_init_0 : decode cX2_init 0 = .ok (.aload_n 0, 1) := by decide +kernel
theorem dX2_init_1 : decode cX2_init 1 = .ok (.invokespecial 3, 3) := by decide +kernel
theorem dX2_init_4 : decode cX2_init 4 = .ok (.aload_n 0, 1) := by decide +kernel
theorem dX2_init_5 : decode cX2_init 5 = .ok (.sipush 200, 3) := by decide +kernel
theorem dX2_init_8 : decode cX2_init 8 = .ok (.newarray .int, 2) := by decide +kernel
theorem dX2_init_10 : decode cX2_init 10 = .ok (.putfield 9, 3) := by decide +kernel
theorem dX2_init_13 : decode cX2_init 13 = .ok (.aload_n 0, 1) := by decide +kernel
theorem dX2_init_14 : decode cX2_init 14 = .ok (.sipush 240, 3) := by decide +kernel
theorem dX2_init_17 : decode cX2_init 17 = .ok (.newarray .int, 2) := by decide +kernel
theorem dX2_init_19 : decode cX2_init 19 = .ok (.putfield 15, 3) := by decide +kernel
theorem dX2_init_22 : decode cX2_init 22 = .ok (.aload_n 0, 1) := by decide +kernel
theorem dX2_init_23 : decode cX2_init 23 = .ok (.bipush 60, 2) := by decide +kernel
theorem dX2_init_25 : decode cX2_init 25 = .ok (.newarray .int, 2) := by decide +kernel
theorem dX2_init_27 : decode cX2_init 27 = .ok (.putfield 18, 3) := by decide +kernel
theorem dX2_init_30 : decode cX2_init 30 = .ok (.aload_n 0, 1) := by decide +kernel
theorem dX2_init_31 : decode cX2_init 31 = .ok (.bipush 12, 2) := by decide +kernel
theorem dX2_init_33 : decode cX2_init 33 = .ok (.newarray .int, 2) := by decide +kernel
theorem dX2_init_35 : decode cX2_init 35 = .ok (.putfield 21, 3) := by decide +kernel
theorem dX2_init_38 : decode cX2_init 38 = .ok (.return_, 1) := by decide +kernel
theorem dX2_startOver_0 : decode cX2_startOver 0 = .ok (.aload_n 0, 1) := by decide +kernel
theorem dX2_startOver_1 : decode cX2_startOver 1 = .ok (.getfield 9, 3) := by decide +kernel
theorem dX2_startOver_4 : decode cX2_startOver 4 = .ok (.iconst 0, 1) := by decide +kernel
theorem dX2_startOver_5 : decode cX2_startOver 5 = .ok (.invokestatic 24, 3) := by decide +kernel
theorem dX2_startOver_8 : decode cX2_startOver 8 = .ok (.aload_n 0, 1) := by decide +kernel
theorem dX2_startOver_9 : decode cX2_startOver 9 = .ok (.iconst 0, 1) := by decide +kernel
theorem dX2_startOver_10 : decode cX2_startOver 10 = .ok (.putfield 30, 3) := by decide +kernel
theorem dX2_startOver_13 : decode cX2_startOver 13 = .ok (.return_, 1) := by decide +kernel
theorem dX2_add_0 : decode cX2_add 0 = .ok (.iload_n 3, 1) := by decide +kernel
theorem dX2_add_1 : decode cX2_add 1 = .ok (.ifCond .eq 13, 3) := by decide +kernel
theorem dX2_add_4 : decode cX2_add 4 = .ok (.aload_n 0, 1) := by decide +kernel
theorem dX2_add_5 : decode cX2_add 5 = .ok (.getfield 30, 3) := by decide +kernel
theorem dX2_add_8 : decode cX2_add 8 = .ok (.bipush 60, 2) := by decide +kernel
theorem dX2_add_10 : decode cX2_add 10 = .ok (.if_icmp .lt 4, 3) := by decide +kernel
theorem dX2_add_13 : decode cX2_add 13 = .ok (.return_, 1) := by decide +kernel
theorem dX2_add_14 : decode cX2_add 14 = .ok (.iconst 0, 1) := by decide +kernel
theorem dX2_add_15 : decode cX2_add 15 = .ok (.istore 4, 2) := by decide +kernel
theorem dX2_add_17 : decode cX2_add 17 = .ok (.iload 4, 2) := by decide +kernel
theorem dX2_add_19 : decode cX2_add 19 = .ok (.aload_n 1, 1) := by decide +kernel
theorem dX2_add_20 : decode cX2_add 20 = .ok (.getfield 34, 3) := by decide +kernel
theorem dX2_add_23 : decode cX2_add 23 = .ok (.if_icmp .ge 90, 3) := by decide +kernel
theorem dX2_add_26 : decode cX2_add 26 = .ok (.aload_n 1, 1) := by decide +kernel
theorem dX2_add_27 : decode cX2_add 27 = .ok (.getfield 39, 3) := by decide +kernel
theorem dX2_add_30 : decode cX2_add 30 = .ok (.iload 4, 2) := by decide +kernel
theorem dX2_add_32 : decode cX2_add 32 = .ok (.iaload, 1) := by decide +kernel
theorem dX2_add_33 : decode cX2_add 33 = .ok (.bipush 40, 2) := by decide +kernel
theorem dX2_add_35 : decode cX2_add 35 = .ok (.imul, 1) := by decide +kernel
theorem dX2_add_36 : decode cX2_add 36 = .ok (.aload_n 1, 1) := by decide +kernel
theorem dX2_add_37 : decode cX2_add 37 = .ok (.iload_n 2, 1) := by decide +kernel
theorem dX2_add_38 : decode cX2_add 38 = .ok (.iload 4, 2) := by decide +kernel
theorem dX2_add_40 : decode cX2_add 40 = .ok (.invokevirtual 42, 3) := by decide +kernel
theorem dX2_add_43 : decode cX2_add 43 = .ok (.iadd, 1) := by decide +kernel
theorem dX2_add_44 : decode cX2_add 44 = .ok (.istore 5, 2) := by decide +kernel
theorem dX2_add_46 : decode cX2_add 46 = .ok (.iload 5, 2) := by decide +kernel
theorem dX2_add_48 : decode cX2_add 48 = .ok (.ifCond .lt 39, 3) := by decide +kernel
theorem dX2_add_51 : decode cX2_add 51 = .ok (.iload 5, 2) := by decide +kernel
theorem dX2_add_53 : decode cX2_add 53 = .ok (.aload_n 0, 1) := by decide +kernel
theorem dX2_add_54 : decode cX2_add 54 = .ok (.getfield 9, 3) := by decide +kernel
theorem dX2_add_57 : decode cX2_add 57 = .ok (.arraylength, 1) := by decide +kernel
theorem dX2_add_58 : decode cX2_add 58 = .ok (.if_icmp .ge 29, 3) := by decide +kernel
theorem dX2_add_61 : decode cX2_add 61 = .ok (.aload_n 0, 1) := by decide +kernel
theorem dX2_add_62 : decode cX2_add 62 = .ok (.getfield 9, 3) := by decide +kernel
theorem dX2_add_65 : decode cX2_add 65 = .ok (.iload 5, 2) := by decide +kernel
theorem dX2_add_67 : decode cX2_add 67 = .ok (.iload_n 3, 1) := by decide +kernel
theorem dX2_add_68 : decode cX2_add 68 = .ok (.ifCond .eq 17, 3) := by decide +kernel
theorem dX2_add_71 : decode cX2_add 71 = .ok (.aload_n 0, 1) := by decide +kernel
theorem dX2_add_72 : decode cX2_add 72 = .ok (.getfield 9, 3) := by decide +kernel
theorem dX2_add_75 : decode cX2_add 75 = .ok (.iload 5, 2) := by decide +kernel
theorem dX2_add_77 : decode cX2_add 77 = .ok (.iaload, 1) := by decide +kernel
theorem dX2_add_78 : decode cX2_add 78 = .ok (.iconst 1, 1) := by decide +kernel
theorem dX2_add_79 : decode cX2_add 79 = .ok (.invokestatic 46, 3) := by decide +kernel
theorem dX2_add_82 : decode cX2_add 82 = .ok (.goto 4, 3) := by decide +kernel
theorem dX2_add_85 : decode cX2_add 85 = .ok (.iconst 2, 1) := by decide +kernel
theorem dX2_add_86 : decode cX2_add 86 = .ok (.iastore, 1) := by decide +kernel
theorem dX2_add_87 : decode cX2_add 87 = .ok (.iload_n 3, 1) := by decide +kernel
theorem dX2_add_88 : decode cX2_add 88 = .ok (.ifCond .eq 19, 3) := by decide +kernel
theorem dX2_add_91 : decode cX2_add 91 = .ok (.aload_n 0, 1) := by decide +kernel
theorem dX2_add_92 : decode cX2_add 92 = .ok (.getfield 15, 3) := by decide +kernel
theorem dX2_add_95 : decode cX2_add 95 = .ok (.aload_n 0, 1) := by decide +kernel
theorem dX2_add_96 : decode cX2_add 96 = .ok (.getfield 30, 3) := by decide +kernel
theorem dX2_add_99 : decode cX2_add 99 = .ok (.iconst 4, 1) := by decide +kernel
theorem dX2_add_100 : decode cX2_add 100 = .ok (.imul, 1) := by decide +kernel
theorem dX2_add_101 : decode cX2_add 101 = .ok (.iload 4, 2) := by decide +kernel
theorem dX2_add_103 : decode cX2_add 103 = .ok (.iadd, 1) := by decide +kernel
theorem dX2_add_104 : decode cX2_add 104 = .ok (.iload 5, 2) := by decide +kernel
theorem dX2_add_106 : decode cX2_add 106 = .ok (.iastore, 1) := by decide +kernel
theorem dX2_add_107 : decode cX2_add 107 = .ok (.iinc 4 1, 3) := by decide +kernel
theorem dX2_add_110 : decode cX2_add 110 = .ok (.goto (-93), 3) := by decide +kernel
theorem dX2_add_113 : decode cX2_add 113 = .ok (.iload_n 3, 1) := by decide +kernel
theorem dX2_add_114 : decode cX2_add 114 = .ok (.ifCond .eq 13, 3) := by decide +kernel
theorem dX2_add_117 : decode cX2_add 117 = .ok (.aload_n 0, 1) := by decide +kernel
theorem dX2_add_118 : decode cX2_add 118 = .ok (.dup, 1) := by decide +kernel
theorem dX2_add_119 : decode cX2_add 119 = .ok (.getfield 30, 3) := by decide +kernel
theorem dX2_add_122 : decode cX2_add 122 = .ok (.iconst 1, 1) := by decide +kernel
theorem dX2_add_123 : decode cX2_add 123 = .ok (.iadd, 1) := by decide +kernel
theorem dX2_add_124 : decode cX2_add 124 = .ok (.putfield 30, 3) := by decide +kernel
theorem dX2_add_127 : decode cX2_add 127 = .ok (.return_, 1) := by decide +kernel
theorem dX2_look_0 : decode cX2_look 0 = .ok (.aload_n 0, 1) := by decide +kernel
theorem dX2_look_1 : decode cX2_look 1 = .ok (.invokevirtual 51, 3) := by decide +kernel
theorem dX2_look_4 : decode cX2_look 4 = .ok (.ifCond .eq 11, 3) := by decide +kernel
theorem dX2_look_7 : decode cX2_look 7 = .ok (.aload_n 0, 1) := by decide +kernel
theorem dX2_look_8 : decode cX2_look 8 = .ok (.iload_n 1, 1) := by decide +kernel
theorem dX2_look_9 : decode cX2_look 9 = .ok (.invokevirtual 55, 3) := by decide +kernel
theorem dX2_look_12 : decode cX2_look 12 = .ok (.ifCond .ne 5, 3) := by decide +kernel
theorem dX2_look_15 : decode cX2_look 15 = .ok (.iconst 0, 1) := by decide +kernel
theorem dX2_look_16 : decode cX2_look 16 = .ok (.ireturn, 1) := by decide +kernel
theorem dX2_look_17 : decode cX2_look 17 = .ok (.aload_n 0, 1) := by decide +kernel
theorem dX2_look_18 : decode cX2_look 18 = .ok (.aload_n 0, 1) := by decide +kernel
theorem dX2_look_19 : decode cX2_look 19 = .ok (.getfield 59, 3) := by decide +kernel
theorem dX2_look_22 : decode cX2_look 22 = .ok (.iconst 1, 1) := by decide +kernel
theorem dX2_look_23 : decode cX2_look 23 = .ok (.iadd, 1) := by decide +kernel
theorem dX2_look_24 : decode cX2_look 24 = .ok (.putfield 62, 3) := by decide +kernel
theorem dX2_look_27 : decode cX2_look 27 = .ok (.aload_n 0, 1) := by decide +kernel
theorem dX2_look_28 : decode cX2_look 28 = .ok (.iconst 0, 1) := by decide +kernel
theorem dX2_look_29 : decode cX2_look 29 = .ok (.putfield 65, 3) := by decide +kernel
theorem dX2_look_32 : decode cX2_look 32 = .ok (.aload_n 0, 1) := by decide +kernel
theorem dX2_look_33 : decode cX2_look 33 = .ok (.iconst 0, 1) := by decide +kernel
theorem dX2_look_34 : decode cX2_look 34 = .ok (.putfield 68, 3) := by decide +kernel
theorem dX2_look_37 : decode cX2_look 37 = .ok (.iconst 1, 1) := by decide +kernel
theorem dX2_look_38 : decode cX2_look 38 = .ok (.aload_n 0, 1) := by decide +kernel
theorem dX2_look_39 : decode cX2_look 39 = .ok (.getfield 59, 3) := by decide +kernel
theorem dX2_look_42 : decode cX2_look 42 = .ok (.ishl, 1) := by decide +kernel
theorem dX2_look_43 : decode cX2_look 43 = .ok (.iconst 1, 1) := by decide +kernel
theorem dX2_look_44 : decode cX2_look 44 = .ok (.isub, 1) := by decide +kernel
theorem dX2_look_45 : decode cX2_look 45 = .ok (.istore_n 2, 1) := by decide +kernel
theorem dX2_look_46 : decode cX2_look 46 = .ok (.iload_n 2, 1) := by decide +kernel
theorem dX2_look_47 : decode cX2_look 47 = .ok (.ifCond .lt 63, 3) := by decide +kernel
theorem dX2_look_50 : decode cX2_look 50 = .ok (.iload_n 2, 1) := by decide +kernel
theorem dX2_look_51 : decode cX2_look 51 = .ok (.invokestatic 71, 3) := by decide +kernel
theorem dX2_look_54 : decode cX2_look 54 = .ok (.istore_n 3, 1) := by decide +kernel
theorem dX2_look_55 : decode cX2_look 55 = .ok (.iload_n 3, 1) := by decide +kernel
theorem dX2_look_56 : decode cX2_look 56 = .ok (.aload_n 0, 1) := by decide +kernel
theorem dX2_look_57 : decode cX2_look 57 = .ok (.getfield 62, 3) := by decide +kernel
theorem dX2_look_60 : decode cX2_look 60 = .ok (.if_icmp .gt 44, 3) := by decide +kernel
theorem dX2_look_63 : decode cX2_look 63 = .ok (.aload_n 0, 1) := by decide +kernel
theorem dX2_look_64 : decode cX2_look 64 = .ok (.iload_n 2, 1) := by decide +kernel
theorem dX2_look_65 : decode cX2_look 65 = .ok (.invokevirtual 77, 3) := by decide +kernel
theorem dX2_look_68 : decode cX2_look 68 = .ok (.ifCond .eq 36, 3) := by decide +kernel
theorem dX2_look_71 : decode cX2_look 71 = .ok (.iload_n 3, 1) := by decide +kernel
theorem dX2_look_72 : decode cX2_look 72 = .ok (.aload_n 0, 1) := by decide +kernel
theorem dX2_look_73 : decode cX2_look 73 = .ok (.getfield 62, 3) := by decide +kernel
theorem dX2_look_76 : decode cX2_look 76 = .ok (.if_icmp .ge 18, 3) := by decide +kernel
theorem dX2_look_79 : decode cX2_look 79 = .ok (.aload_n 0, 1) := by decide +kernel
theorem dX2_look_80 : decode cX2_look 80 = .ok (.iload_n 3, 1) := by decide +kernel
theorem dX2_look_81 : decode cX2_look 81 = .ok (.putfield 62, 3) := by decide +kernel
theorem dX2_look_84 : decode cX2_look 84 = .ok (.aload_n 0, 1) := by decide +kernel
theorem dX2_look_85 : decode cX2_look 85 = .ok (.iconst 0, 1) := by decide +kernel
theorem dX2_look_86 : decode cX2_look 86 = .ok (.putfield 65, 3) := by decide +kernel
theorem dX2_look_89 : decode cX2_look 89 = .ok (.aload_n 0, 1) := by decide +kernel
theorem dX2_look_90 : decode cX2_look 90 = .ok (.iload_n 2, 1) := by decide +kernel
theorem dX2_look_91 : decode cX2_look 91 = .ok (.putfield 68, 3) := by decide +kernel
theorem dX2_look_94 : decode cX2_look 94 = .ok (.aload_n 0, 1) := by decide +kernel
theorem dX2_look_95 : decode cX2_look 95 = .ok (.dup, 1) := by decide +kernel
theorem dX2_look_96 : decode cX2_look 96 = .ok (.getfield 65, 3) := by decide +kernel
theorem dX2_look_99 : decode cX2_look 99 = .ok (.iconst 1, 1) := by decide +kernel
theorem dX2_look_100 : decode cX2_look 100 = .ok (.iadd, 1) := by decide +kernel
theorem dX2_look_101 : decode cX2_look 101 = .ok (.putfield 65, 3) := by decide +kernel
theorem dX2_look_104 : decode cX2_look 104 = .ok (.iinc 2 (-1), 3) := by decide +kernel
theorem dX2_look_107 : decode cX2_look 107 = .ok (.goto (-61), 3) := by decide +kernel
theorem dX2_look_110 : decode cX2_look 110 = .ok (.aload_n 0, 1) := by decide +kernel
theorem dX2_look_111 : decode cX2_look 111 = .ok (.getfield 65, 3) := by decide +kernel
theorem dX2_look_114 : decode cX2_look 114 = .ok (.ifCond .le 7, 3) := by decide +kernel
theorem dX2_look_117 : decode cX2_look 117 = .ok (.iconst 1, 1) := by decide +kernel
theorem dX2_look_118 : decode cX2_look 118 = .ok (.goto 4, 3) := by decide +kernel
theorem dX2_look_121 : decode cX2_look 121 = .ok (.iconst 0, 1) := by decide +kernel
theorem dX2_look_122 : decode cX2_look 122 = .ok (.ireturn, 1) := by decide +kernel
theorem dX2_findCandidates_0 : decode cX2_findCandidates 0 = .ok (.aload_n 0, 1) := by decide +kernel
theorem dX2_findCandidates_1 : decode cX2_findCandidates 1 = .ok (.iconst 0, 1) := by decide +kernel
theorem dX2_findCandidates_2 : decode cX2_findCandidates 2 = .ok (.putfield 59, 3) := by decide +kernel
theorem dX2_findCandidates_5 : decode cX2_findCandidates 5 = .ok (.iconst 0, 1) := by decide +kernel
theorem dX2_findCandidates_6 : decode cX2_findCandidates 6 = .ok (.istore_n 1, 1) := by decide +kernel
theorem dX2_findCandidates_7 : decode cX2_findCandidates 7 = .ok (.iload_n 1, 1) := by decide +kernel
theorem dX2_findCandidates_8 : decode cX2_findCandidates 8 = .ok (.aload_n 0, 1) := by decide +kernel
theorem dX2_findCandidates_9 : decode cX2_findCandidates 9 = .ok (.getfield 9, 3) := by decide +kernel
theorem dX2_findCandidates_12 : decode cX2_findCandidates 12 = .ok (.arraylength, 1) := by decide +kernel
theorem dX2_findCandidates_13 : decode cX2_findCandidates 13 = .ok (.if_icmp .ge 50, 3) := by decide +kernel
theorem dX2_findCandidates_16 : decode cX2_findCandidates 16 = .ok (.aload_n 0, 1) := by decide +kernel
theorem dX2_findCandidates_17 : decode cX2_findCandidates 17 = .ok (.getfield 9, 3) := by decide +kernel
theorem dX2_findCandidates_20 : decode cX2_findCandidates 20 = .ok (.iload_n 1, 1) := by decide +kernel
theorem dX2_findCandidates_21 : decode cX2_findCandidates 21 = .ok (.iaload, 1) := by decide +kernel
theorem dX2_findCandidates_22 : decode cX2_findCandidates 22 = .ok (.iconst 1, 1) := by decide +kernel
theorem dX2_findCandidates_23 : decode cX2_findCandidates 23 = .ok (.if_icmp .ne 34, 3) := by decide +kernel
theorem dX2_findCandidates_26 : decode cX2_findCandidates 26 = .ok (.aload_n 0, 1) := by decide +kernel
theorem dX2_findCandidates_27 : decode cX2_findCandidates 27 = .ok (.getfield 59, 3) := by decide +kernel
theorem dX2_findCandidates_30 : decode cX2_findCandidates 30 = .ok (.bipush 12, 2) := by decide +kernel
theorem dX2_findCandidates_32 : decode cX2_findCandidates 32 = .ok (.if_icmp .lt 5, 3) := by decide +kernel
theorem dX2_findCandidates_35 : decode cX2_findCandidates 35 = .ok (.iconst 0, 1) := by decide +kernel
theorem dX2_findCandidates_36 : decode cX2_findCandidates 36 = .ok (.ireturn, 1) := by decide +kernel
theorem dX2_findCandidates_37 : decode cX2_findCandidates 37 = .ok (.aload_n 0, 1) := by decide +kernel
theorem dX2_findCandidates_38 : decode cX2_findCandidates 38 = .ok (.getfield 21, 3) := by decide +kernel
theorem dX2_findCandidates_41 : decode cX2_findCandidates 41 = .ok (.aload_n 0, 1) := by decide +kernel
theorem dX2_findCandidates_42 : decode cX2_findCandidates 42 = .ok (.getfield 59, 3) := by decide +kernel
theorem dX2_findCandidates_45 : decode cX2_findCandidates 45 = .ok (.iload_n 1, 1) := by decide +kernel
theorem dX2_findCandidates_46 : decode cX2_findCandidates 46 = .ok (.iastore, 1) := by decide +kernel
theorem dX2_findCandidates_47 : decode cX2_findCandidates 47 = .ok (.aload_n 0, 1) := by decide +kernel
theorem dX2_findCandidates_48 : decode cX2_findCandidates 48 = .ok (.dup, 1) := by decide +kernel
theorem dX2_findCandidates_49 : decode cX2_findCandidates 49 = .ok (.getfield 59, 3) := by decide +kernel
theorem dX2_findCandidates_52 : decode cX2_findCandidates 52 = .ok (.iconst 1, 1) := by decide +kernel
theorem dX2_findCandidates_53 : decode cX2_findCandidates 53 = .ok (.iadd, 1) := by decide +kernel
theorem dX2_findCandidates_54 : decode cX2_findCandidates 54 = .ok (.putfield 59, 3) := by decide +kernel
theorem dX2_findCandidates_57 : decode cX2_findCandidates 57 = .ok (.iinc 1 1, 3) := by decide +kernel
theorem dX2_findCandidates_60 : decode cX2_findCandidates 60 = .ok (.goto (-53), 3) := by decide +kernel
theorem dX2_findCandidates_63 : decode cX2_findCandidates 63 = .ok (.iconst 1, 1) := by decide +kernel
theorem dX2_findCandidates_64 : decode cX2_findCandidates 64 = .ok (.ireturn, 1) := by decide +kernel
theorem dX2_weighBadOnes_0 : decode cX2_weighBadOnes 0 = .ok (.iconst 0, 1) := by decide +kernel
theorem dX2_weighBadOnes_1 : decode cX2_weighBadOnes 1 = .ok (.istore_n 2, 1) := by decide +kernel
theorem dX2_weighBadOnes_2 : decode cX2_weighBadOnes 2 = .ok (.iload_n 2, 1) := by decide +kernel
theorem dX2_weighBadOnes_3 : decode cX2_weighBadOnes 3 = .ok (.aload_n 0, 1) := by decide +kernel
theorem dX2_weighBadOnes_4 : decode cX2_weighBadOnes 4 = .ok (.getfield 30, 3) := by decide +kernel
theorem dX2_weighBadOnes_7 : decode cX2_weighBadOnes 7 = .ok (.if_icmp .ge 63, 3) := by decide +kernel
theorem dX2_weighBadOnes_10 : decode cX2_weighBadOnes 10 = .ok (.iconst 0, 1) := by decide +kernel
theorem dX2_weighBadOnes_11 : decode cX2_weighBadOnes 11 = .ok (.istore_n 3, 1) := by decide +kernel
theorem dX2_weighBadOnes_12 : decode cX2_weighBadOnes 12 = .ok (.iconst 0, 1) := by decide +kernel
theorem dX2_weighBadOnes_13 : decode cX2_weighBadOnes 13 = .ok (.istore 4, 2) := by decide +kernel
theorem dX2_weighBadOnes_15 : decode cX2_weighBadOnes 15 = .ok (.iload 4, 2) := by decide +kernel
theorem dX2_weighBadOnes_17 : decode cX2_weighBadOnes 17 = .ok (.iload_n 1, 1) := by decide +kernel
theorem dX2_weighBadOnes_18 : decode cX2_weighBadOnes 18 = .ok (.if_icmp .ge 33, 3) := by decide +kernel
theorem dX2_weighBadOnes_21 : decode cX2_weighBadOnes 21 = .ok (.iload 4, 2) := by decide +kernel
theorem dX2_weighBadOnes_23 : decode cX2_weighBadOnes 23 = .ok (.iconst 4, 1) := by decide +kernel
theorem dX2_weighBadOnes_24 : decode cX2_weighBadOnes 24 = .ok (.if_icmp .ge 27, 3) := by decide +kernel
theorem dX2_weighBadOnes_27 : decode cX2_weighBadOnes 27 = .ok (.iload_n 3, 1) := by decide +kernel
theorem dX2_weighBadOnes_28 : decode cX2_weighBadOnes 28 = .ok (.aload_n 0, 1) := by decide +kernel
theorem dX2_weighBadOnes_29 : decode cX2_weighBadOnes 29 = .ok (.aload_n 0, 1) := by decide +kernel
theorem dX2_weighBadOnes_30 : decode cX2_weighBadOnes 30 = .ok (.getfield 15, 3) := by decide +kernel
theorem dX2_weighBadOnes_33 : decode cX2_weighBadOnes 33 = .ok (.iload_n 2, 1) := by decide +kernel
theorem dX2_weighBadOnes_34 : decode cX2_weighBadOnes 34 = .ok (.iconst 4, 1) := by decide +kernel
theorem dX2_weighBadOnes_35 : decode cX2_weighBadOnes 35 = .ok (.imul, 1) := by decide +kernel
theorem dX2_weighBadOnes_36 : decode cX2_weighBadOnes 36 = .ok (.iload 4, 2) := by decide +kernel
theorem dX2_weighBadOnes_38 : decode cX2_weighBadOnes 38 = .ok (.iadd, 1) := by decide +kernel
theorem dX2_weighBadOnes_39 : decode cX2_weighBadOnes 39 = .ok (.iaload, 1) := by decide +kernel
theorem dX2_weighBadOnes_40 : decode cX2_weighBadOnes 40 = .ok (.invokevirtual 80, 3) := by decide +kernel
theorem dX2_weighBadOnes_43 : decode cX2_weighBadOnes 43 = .ok (.ior, 1) := by decide +kernel
theorem dX2_weighBadOnes_44 : decode cX2_weighBadOnes 44 = .ok (.istore_n 3, 1) := by decide +kernel
theorem dX2_weighBadOnes_45 : decode cX2_weighBadOnes 45 = .ok (.iinc 4 1, 3) := by decide +kernel
theorem dX2_weighBadOnes_48 : decode cX2_weighBadOnes 48 = .ok (.goto (-33), 3) := by decide +kernel
theorem dX2_weighBadOnes_51 : decode cX2_weighBadOnes 51 = .ok (.iload_n 3, 1) := by decide +kernel
theorem dX2_weighBadOnes_52 : decode cX2_weighBadOnes 52 = .ok (.ifCond .ne 5, 3) := by decide +kernel
theorem dX2_weighBadOnes_55 : decode cX2_weighBadOnes 55 = .ok (.iconst 0, 1) := by decide +kernel
theorem dX2_weighBadOnes_56 : decode cX2_weighBadOnes 56 = .ok (.ireturn, 1) := by decide +kernel
theorem dX2_weighBadOnes_57 : decode cX2_weighBadOnes 57 = .ok (.aload_n 0, 1) := by decide +kernel
theorem dX2_weighBadOnes_58 : decode cX2_weighBadOnes 58 = .ok (.getfield 18, 3) := by decide +kernel
theorem dX2_weighBadOnes_61 : decode cX2_weighBadOnes 61 = .ok (.iload_n 2, 1) := by decide +kernel
theorem dX2_weighBadOnes_62 : decode cX2_weighBadOnes 62 = .ok (.iload_n 3, 1) := by decide +kernel
theorem dX2_weighBadOnes_63 : decode cX2_weighBadOnes 63 = .ok (.iastore, 1) := by decide +kernel
theorem dX2_weighBadOnes_64 : decode cX2_weighBadOnes 64 = .ok (.iinc 2 1, 3) := by decide +kernel
theorem dX2_weighBadOnes_67 : decode cX2_weighBadOnes 67 = .ok (.goto (-65), 3) := by decide +kernel
theorem dX2_weighBadOnes_70 : decode cX2_weighBadOnes 70 = .ok (.iconst 1, 1) := by decide +kernel
theorem dX2_weighBadOnes_71 : decode cX2_weighBadOnes 71 = .ok (.ireturn, 1) := by decide +kernel
theorem dX2_bitOf_0 : decode cX2_bitOf 0 = .ok (.iconst 0, 1) := by decide +kernel
theorem dX2_bitOf_1 : decode cX2_bitOf 1 = .ok (.istore_n 2, 1) := by decide +kernel
theorem dX2_bitOf_2 : decode cX2_bitOf 2 = .ok (.iload_n 2, 1) := by decide +kernel
theorem dX2_bitOf_3 : decode cX2_bitOf 3 = .ok (.aload_n 0, 1) := by decide +kernel
theorem dX2_bitOf_4 : decode cX2_bitOf 4 = .ok (.getfield 59, 3) := by decide +kernel
theorem dX2_bitOf_7 : decode cX2_bitOf 7 = .ok (.if_icmp .ge 30, 3) := by decide +kernel
theorem dX2_bitOf_10 : decode cX2_bitOf 10 = .ok (.aload_n 0, 1) := by decide +kernel
theorem dX2_bitOf_11 : decode cX2_bitOf 11 = .ok (.getfield 21, 3) := by decide +kernel
theorem dX2_bitOf_14 : decode cX2_bitOf 14 = .ok (.iload_n 2, 1) := by decide +kernel
theorem dX2_bitOf_15 : decode cX2_bitOf 15 = .ok (.iaload, 1) := by decide +kernel
theorem dX2_bitOf_16 : decode cX2_bitOf 16 = .ok (.iload_n 1, 1) := by decide +kernel
theorem dX2_bitOf_17 : decode cX2_bitOf 17 = .ok (.if_icmp .ne 14, 3) := by decide +kernel
theorem dX2_bitOf_20 : decode cX2_bitOf 20 = .ok (.iconst 1, 1) := by decide +kernel
theorem dX2_bitOf_21 : decode cX2_bitOf 21 = .ok (.aload_n 0, 1) := by decide +kernel
theorem dX2_bitOf_22 : decode cX2_bitOf 22 = .ok (.getfield 59, 3) := by decide +kernel
theorem dX2_bitOf_25 : decode cX2_bitOf 25 = .ok (.iconst 1, 1) := by decide +kernel
theorem dX2_bitOf_26 : decode cX2_bitOf 26 = .ok (.isub, 1) := by decide +kernel
theorem dX2_bitOf_27 : decode cX2_bitOf 27 = .ok (.iload_n 2, 1) := by decide +kernel
theorem dX2_bitOf_28 : decode cX2_bitOf 28 = .ok (.isub, 1) := by decide +kernel
theorem dX2_bitOf_29 : decode cX2_bitOf 29 = .ok (.ishl, 1) := by decide +kernel
theorem dX2_bitOf_30 : decode cX2_bitOf 30 = .ok (.ireturn, 1) := by decide +kernel
theorem dX2_bitOf_31 : decode cX2_bitOf 31 = .ok (.iinc 2 1, 3) := by decide +kernel
theorem dX2_bitOf_34 : decode cX2_bitOf 34 = .ok (.goto (-32), 3) := by decide +kernel
theorem dX2_bitOf_37 : decode cX2_bitOf 37 = .ok (.iconst 0, 1) := by decide +kernel
theorem dX2_bitOf_38 : decode cX2_bitOf 38 = .ok (.ireturn, 1) := by decide +kernel
theorem dX2_hitsAllBadOnes_0 : decode cX2_hitsAllBadOnes 0 = .ok (.iconst 0, 1) := by decide +kernel
theorem dX2_hitsAllBadOnes_1 : decode cX2_hitsAllBadOnes 1 = .ok (.istore_n 2, 1) := by decide +kernel
theorem dX2_hitsAllBadOnes_2 : decode cX2_hitsAllBadOnes 2 = .ok (.iload_n 2, 1) := by decide +kernel
theorem dX2_hitsAllBadOnes_3 : decode cX2_hitsAllBadOnes 3 = .ok (.aload_n 0, 1) := by decide +kernel
theorem dX2_hitsAllBadOnes_4 : decode cX2_hitsAllBadOnes 4 = .ok (.getfield 30, 3) := by decide +kernel
theorem dX2_hitsAllBadOnes_7 : decode cX2_hitsAllBadOnes 7 = .ok (.if_icmp .ge 22, 3) := by decide +kernel
theorem dX2_hitsAllBadOnes_10 : decode cX2_hitsAllBadOnes 10 = .ok (.aload_n 0, 1) := by decide +kernel
theorem dX2_hitsAllBadOnes_11 : decode cX2_hitsAllBadOnes 11 = .ok (.getfield 18, 3) := by decide +kernel
theorem dX2_hitsAllBadOnes_14 : decode cX2_hitsAllBadOnes 14 = .ok (.iload_n 2, 1) := by decide +kernel
theorem dX2_hitsAllBadOnes_15 : decode cX2_hitsAllBadOnes 15 = .ok (.iaload, 1) := by decide +kernel
theorem dX2_hitsAllBadOnes_16 : decode cX2_hitsAllBadOnes 16 = .ok (.iload_n 1, 1) := by decide +kernel
theorem dX2_hitsAllBadOnes_17 : decode cX2_hitsAllBadOnes 17 = .ok (.iand, 1) := by decide +kernel
theorem dX2_hitsAllBadOnes_18 : decode cX2_hitsAllBadOnes 18 = .ok (.ifCond .ne 5, 3) := by decide +kernel
theorem dX2_hitsAllBadOnes_21 : decode cX2_hitsAllBadOnes 21 = .ok (.iconst 0, 1) := by decide +kernel
theorem dX2_hitsAllBadOnes_22 : decode cX2_hitsAllBadOnes 22 = .ok (.ireturn, 1) := by decide +kernel
theorem dX2_hitsAllBadOnes_23 : decode cX2_hitsAllBadOnes 23 = .ok (.iinc 2 1, 3) := by decide +kernel
theorem dX2_hitsAllBadOnes_26 : decode cX2_hitsAllBadOnes 26 = .ok (.goto (-24), 3) := by decide +kernel
theorem dX2_hitsAllBadOnes_29 : decode cX2_hitsAllBadOnes 29 = .ok (.iconst 1, 1) := by decide +kernel
theorem dX2_hitsAllBadOnes_30 : decode cX2_hitsAllBadOnes 30 = .ok (.ireturn, 1) := by decide +kernel
theorem dX2_suspectOfFirst_0 : decode cX2_suspectOfFirst 0 = .ok (.iconst 0, 1) := by decide +kernel
theorem dX2_suspectOfFirst_1 : decode cX2_suspectOfFirst 1 = .ok (.istore_n 2, 1) := by decide +kernel
theorem dX2_suspectOfFirst_2 : decode cX2_suspectOfFirst 2 = .ok (.iconst 0, 1) := by decide +kernel
theorem dX2_suspectOfFirst_3 : decode cX2_suspectOfFirst 3 = .ok (.istore_n 3, 1) := by decide +kernel
theorem dX2_suspectOfFirst_4 : decode cX2_suspectOfFirst 4 = .ok (.iload_n 3, 1) := by decide +kernel
theorem dX2_suspectOfFirst_5 : decode cX2_suspectOfFirst 5 = .ok (.aload_n 0, 1) := by decide +kernel
theorem dX2_suspectOfFirst_6 : decode cX2_suspectOfFirst 6 = .ok (.getfield 59, 3) := by decide +kernel
theorem dX2_suspectOfFirst_9 : decode cX2_suspectOfFirst 9 = .ok (.if_icmp .ge 59, 3) := by decide +kernel
theorem dX2_suspectOfFirst_12 : decode cX2_suspectOfFirst 12 = .ok (.aload_n 0, 1) := by decide +kernel
theorem dX2_suspectOfFirst_13 : decode cX2_suspectOfFirst 13 = .ok (.getfield 68, 3) := by decide +kernel
theorem dX2_suspectOfFirst_16 : decode cX2_suspectOfFirst 16 = .ok (.aload_n 0, 1) := by decide +kernel
theorem dX2_suspectOfFirst_17 : decode cX2_suspectOfFirst 17 = .ok (.getfield 59, 3) := by decide +kernel
theorem dX2_suspectOfFirst_20 : decode cX2_suspectOfFirst 20 = .ok (.iconst 1, 1) := by decide +kernel
theorem dX2_suspectOfFirst_21 : decode cX2_suspectOfFirst 21 = .ok (.isub, 1) := by decide +kernel
theorem dX2_suspectOfFirst_22 : decode cX2_suspectOfFirst 22 = .ok (.iload_n 3, 1) := by decide +kernel
theorem dX2_suspectOfFirst_23 : decode cX2_suspectOfFirst 23 = .ok (.isub, 1) := by decide +kernel
theorem dX2_suspectOfFirst_24 : decode cX2_suspectOfFirst 24 = .ok (.ishr, 1) := by decide +kernel
theorem dX2_suspectOfFirst_25 : decode cX2_suspectOfFirst 25 = .ok (.iconst 1, 1) := by decide +kernel
theorem dX2_suspectOfFirst_26 : decode cX2_suspectOfFirst 26 = .ok (.iand, 1) := by decide +kernel
theorem dX2_suspectOfFirst_27 : decode cX2_suspectOfFirst 27 = .ok (.iconst 1, 1) := by decide +kernel
theorem dX2_suspectOfFirst_28 : decode cX2_suspectOfFirst 28 = .ok (.if_icmp .ne 34, 3) := by decide +kernel
theorem dX2_suspectOfFirst_31 : decode cX2_suspectOfFirst 31 = .ok (.iload_n 2, 1) := by decide +kernel
theorem dX2_suspectOfFirst_32 : decode cX2_suspectOfFirst 32 = .ok (.iload_n 1, 1) := by decide +kernel
theorem dX2_suspectOfFirst_33 : decode cX2_suspectOfFirst 33 = .ok (.if_icmp .ne 26, 3) := by decide +kernel
theorem dX2_suspectOfFirst_36 : decode cX2_suspectOfFirst 36 = .ok (.aload_n 0, 1) := by decide +kernel
theorem dX2_suspectOfFirst_37 : decode cX2_suspectOfFirst 37 = .ok (.getfield 21, 3) := by decide +kernel
theorem dX2_suspectOfFirst_40 : decode cX2_suspectOfFirst 40 = .ok (.iload_n 3, 1) := by decide +kernel
theorem dX2_suspectOfFirst_41 : decode cX2_suspectOfFirst 41 = .ok (.iaload, 1) := by decide +kernel
theorem dX2_suspectOfFirst_42 : decode cX2_suspectOfFirst 42 = .ok (.bipush 40, 2) := by decide +kernel
theorem dX2_suspectOfFirst_44 : decode cX2_suspectOfFirst 44 = .ok (.idiv, 1) := by decide +kernel
theorem dX2_suspectOfFirst_45 : decode cX2_suspectOfFirst 45 = .ok (.bipush 100, 2) := by decide +kernel
theorem dX2_suspectOfFirst_47 : decode cX2_suspectOfFirst 47 = .ok (.imul, 1) := by decide +kernel
theorem dX2_suspectOfFirst_48 : decode cX2_suspectOfFirst 48 = .ok (.aload_n 0, 1) := by decide +kernel
theorem dX2_suspectOfFirst_49 : decode cX2_suspectOfFirst 49 = .ok (.getfield 21, 3) := by decide +kernel
theorem dX2_suspectOfFirst_52 : decode cX2_suspectOfFirst 52 = .ok (.iload_n 3, 1) := by decide +kernel
theorem dX2_suspectOfFirst_53 : decode cX2_suspectOfFirst 53 = .ok (.iaload, 1) := by decide +kernel
theorem dX2_suspectOfFirst_54 : decode cX2_suspectOfFirst 54 = .ok (.bipush 40, 2) := by decide +kernel
theorem dX2_suspectOfFirst_56 : decode cX2_suspectOfFirst 56 = .ok (.irem, 1) := by decide +kernel
theorem dX2_suspectOfFirst_57 : decode cX2_suspectOfFirst 57 = .ok (.iadd, 1) := by decide +kernel
theorem dX2_suspectOfFirst_58 : decode cX2_suspectOfFirst 58 = .ok (.ireturn, 1) := by decide +kernel
theorem dX2_suspectOfFirst_59 : decode cX2_suspectOfFirst 59 = .ok (.iinc 2 1, 3) := by decide +kernel
theorem dX2_suspectOfFirst_62 : decode cX2_suspectOfFirst 62 = .ok (.iinc 3 1, 3) := by decide +kernel
theorem dX2_suspectOfFirst_65 : decode cX2_suspectOfFirst 65 = .ok (.goto (-61), 3) := by decide +kernel
theorem dX2_suspectOfFirst_68 : decode cX2_suspectOfFirst 68 = .ok (.iconst (-1), 1) := by decide +kernel
theorem dX2_suspectOfFirst_69 : decode cX2_suspectOfFirst 69 = .ok (.ireturn, 1) := by decide +kernel
theorem dX3_init_0 : decode cX3_init 0 = .ok (.aload_n 0, 1) := by decide +kernel
theorem dX3_init_1 : decode cX3_init 1 = .ok (.invokespecial 3, 3) := by decide +kernel
theorem dX3_init_4 : decode cX3_init 4 = .ok (.aload_n 0, 1) := by decide +kernel
theorem dX3_init_5 : decode cX3_init 5 = .ok (.iconst 4, 1) := by decide +kernel
theorem dX3_init_6 : decode cX3_init 6 = .ok (.newarray .int, 2) := by decide +kernel
theorem dX3_init_8 : decode cX3_init 8 = .ok (.putfield 9, 3) := by decide +kernel
theorem dX3_init_11 : decode cX3_init 11 = .ok (.aload_n 0, 1) := by decide +kernel
theorem dX3_init_12 : decode cX3_init 12 = .ok (.iconst 4, 1) := by decide +kernel
theorem dX3_init_13 : decode cX3_init 13 = .ok (.newarray .long, 2) := by decide +kernel
theorem dX3_init_15 : decode cX3_init 15 = .ok (.putfield 15, 3) := by decide +kernel
theorem dX3_init_18 : decode cX3_init 18 = .ok (.return_, 1) := by decide +kernel
theorem dX3_look_0 : decode cX3_look 0 = .ok (.iconst 0, 1) := by decide +kernel
theorem dX3_look_1 : decode cX3_look 1 = .ok (.istore_n 3, 1) := by decide +kernel
theorem dX3_look_2 : decode cX3_look 2 = .ok (.iload_n 3, 1) := by decide +kernel
theorem dX3_look_3 : decode cX3_look 3 = .ok (.aload_n 1, 1) := by decide +kernel
theorem dX3_look_4 : decode cX3_look 4 = .ok (.getfield 19, 3) := by decide +kernel
theorem dX3_look_7 : decode cX3_look 7 = .ok (.if_icmp .ge 18, 3) := by decide +kernel
theorem dX3_look_10 : decode cX3_look 10 = .ok (.aload_n 0, 1) := by decide +kernel
theorem dX3_look_11 : decode cX3_look 11 = .ok (.getfield 9, 3) := by decide +kernel
theorem dX3_look_14 : decode cX3_look 14 = .ok (.iload_n 3, 1) := by decide +kernel
theorem dX3_look_15 : decode cX3_look 15 = .ok (.iload_n 3, 1) := by decide +kernel
theorem dX3_look_16 : decode cX3_look 16 = .ok (.iconst 1, 1) := by decide +kernel
theorem dX3_look_17 : decode cX3_look 17 = .ok (.iadd, 1) := by decide +kernel
theorem dX3_look_18 : decode cX3_look 18 = .ok (.iastore, 1) := by decide +kernel
theorem dX3_look_19 : decode cX3_look 19 = .ok (.iinc 3 1, 3) := by decide +kernel
theorem dX3_look_22 : decode cX3_look 22 = .ok (.goto (-20), 3) := by decide +kernel
theorem dX3_look_25 : decode cX3_look 25 = .ok (.aload_n 0, 1) := by decide +kernel
theorem dX3_look_26 : decode cX3_look 26 = .ok (.iconst (-1), 1) := by decide +kernel
theorem dX3_look_27 : decode cX3_look 27 = .ok (.putfield 25, 3) := by decide +kernel
theorem dX3_look_30 : decode cX3_look 30 = .ok (.aload_n 0, 1) := by decide +kernel
theorem dX3_look_31 : decode cX3_look 31 = .ok (.lconst 0, 1) := by decide +kernel
theorem dX3_look_32 : decode cX3_look 32 = .ok (.putfield 28, 3) := by decide +kernel
theorem dX3_look_35 : decode cX3_look 35 = .ok (.iconst 1, 1) := by decide +kernel
theorem dX3_look_36 : decode cX3_look 36 = .ok (.istore_n 3, 1) := by decide +kernel
theorem dX3_look_37 : decode cX3_look 37 = .ok (.iconst 0, 1) := by decide +kernel
theorem dX3_look_38 : decode cX3_look 38 = .ok (.istore 4, 2) := by decide +kernel
theorem dX3_look_40 : decode cX3_look 40 = .ok (.iload 4, 2) := by decide +kernel
theorem dX3_look_42 : decode cX3_look 42 = .ok (.bipush 24, 2) := by decide +kernel
theorem dX3_look_44 : decode cX3_look 44 = .ok (.if_icmp .ge 66, 3) := by decide +kernel
theorem dX3_look_47 : decode cX3_look 47 = .ok (.iload_n 3, 1) := by decide +kernel
theorem dX3_look_48 : decode cX3_look 48 = .ok (.ifCond .eq 62, 3) := by decide +kernel
theorem dX3_look_51 : decode cX3_look 51 = .ok (.aload_n 0, 1) := by decide +kernel
theorem dX3_look_52 : decode cX3_look 52 = .ok (.aload_n 1, 1) := by decide +kernel
theorem dX3_look_53 : decode cX3_look 53 = .ok (.iload_n 2, 1) := by decide +kernel
theorem dX3_look_54 : decode cX3_look 54 = .ok (.invokevirtual 32, 3) := by decide +kernel
theorem dX3_look_57 : decode cX3_look 57 = .ok (.lstore 5, 2) := by decide +kernel
theorem dX3_look_59 : decode cX3_look 59 = .ok (.aload_n 0, 1) := by decide +kernel
theorem dX3_look_60 : decode cX3_look 60 = .ok (.getfield 25, 3) := by decide +kernel
theorem dX3_look_63 : decode cX3_look 63 = .ok (.iconst (-1), 1) := by decide +kernel
theorem dX3_look_64 : decode cX3_look 64 = .ok (.if_icmp .eq 13, 3) := by decide +kernel
theorem dX3_look_67 : decode cX3_look 67 = .ok (.lload 5, 2) := by decide +kernel
theorem dX3_look_69 : decode cX3_look 69 = .ok (.aload_n 0, 1) := by decide +kernel
theorem dX3_look_70 : decode cX3_look 70 = .ok (.getfield 28, 3) := by decide +kernel
theorem dX3_look_73 : decode cX3_look 73 = .ok (.lcmp, 1) := by decide +kernel
theorem dX3_look_74 : decode cX3_look 74 = .ok (.ifCond .ge 21, 3) := by decide +kernel
theorem dX3_look_77 : decode cX3_look 77 = .ok (.aload_n 0, 1) := by decide +kernel
theorem dX3_look_78 : decode cX3_look 78 = .ok (.aload_n 0, 1) := by decide +kernel
theorem dX3_look_79 : decode cX3_look 79 = .ok (.aload_n 1, 1) := by decide +kernel
theorem dX3_look_80 : decode cX3_look 80 = .ok (.getfield 19, 3) := by decide +kernel
theorem dX3_look_83 : decode cX3_look 83 = .ok (.invokevirtual 36, 3) := by decide +kernel
theorem dX3_look_86 : decode cX3_look 86 = .ok (.putfield 25, 3) := by decide +kernel
theorem dX3_look_89 : decode cX3_look 89 = .ok (.aload_n 0, 1) := by decide +kernel
theorem dX3_look_90 : decode cX3_look 90 = .ok (.lload 5, 2) := by decide +kernel
theorem dX3_look_92 : decode cX3_look 92 = .ok (.putfield 28, 3) := by decide +kernel
theorem dX3_look_95 : decode cX3_look 95 = .ok (.aload_n 0, 1) := by decide +kernel
theorem dX3_look_96 : decode cX3_look 96 = .ok (.aload_n 1, 1) := by decide +kernel
theorem dX3_look_97 : decode cX3_look 97 = .ok (.getfield 19, 3) := by decide +kernel
theorem dX3_look_100 : decode cX3_look 100 = .ok (.invokevirtual 40, 3) := by decide +kernel
theorem dX3_look_103 : decode cX3_look 103 = .ok (.istore_n 3, 1) := by decide +kernel
theorem dX3_look_104 : decode cX3_look 104 = .ok (.iinc 4 1, 3) := by decide +kernel
theorem dX3_look_107 : decode cX3_look 107 = .ok (.goto (-67), 3) := by decide +kernel
theorem dX3_look_110 : decode cX3_look 110 = .ok (.return_, 1) := by decide +kernel
theorem dX3_greatestWidth_0 : decode cX3_greatestWidth 0 = .ok (.lconst 0, 1) := by decide +kernel
theorem dX3_greatestWidth_1 : decode cX3_greatestWidth 1 = .ok (.lstore_n 3, 1) := by decide +kernel
theorem dX3_greatestWidth_2 : decode cX3_greatestWidth 2 = .ok (.iconst 0, 1) := by decide +kernel
theorem dX3_greatestWidth_3 : decode cX3_greatestWidth 3 = .ok (.istore 5, 2) := by decide +kernel
theorem dX3_greatestWidth_5 : decode cX3_greatestWidth 5 = .ok (.iload 5, 2) := by decide +kernel
theorem dX3_greatestWidth_7 : decode cX3_greatestWidth 7 = .ok (.iconst 1, 1) := by decide +kernel
theorem dX3_greatestWidth_8 : decode cX3_greatestWidth 8 = .ok (.aload_n 1, 1) := by decide +kernel
theorem dX3_greatestWidth_9 : decode cX3_greatestWidth 9 = .ok (.getfield 19, 3) := by decide +kernel
theorem dX3_greatestWidth_12 : decode cX3_greatestWidth 12 = .ok (.ishl, 1) := by decide +kernel
theorem dX3_greatestWidth_13 : decode cX3_greatestWidth 13 = .ok (.if_icmp .ge 119, 3) := by decide +kernel
theorem dX3_greatestWidth_16 : decode cX3_greatestWidth 16 = .ok (.iconst 0, 1) := by decide +kernel
theorem dX3_greatestWidth_17 : decode cX3_greatestWidth 17 = .ok (.istore 6, 2) := by decide +kernel
theorem dX3_greatestWidth_19 : decode cX3_greatestWidth 19 = .ok (.iload 6, 2) := by decide +kernel
theorem dX3_greatestWidth_21 : decode cX3_greatestWidth 21 = .ok (.aload_n 1, 1) := by decide +kernel
theorem dX3_greatestWidth_22 : decode cX3_greatestWidth 22 = .ok (.getfield 19, 3) := by decide +kernel
theorem dX3_greatestWidth_25 : decode cX3_greatestWidth 25 = .ok (.if_icmp .ge 72, 3) := by decide +kernel
theorem dX3_greatestWidth_28 : decode cX3_greatestWidth 28 = .ok (.iload 5, 2) := by decide +kernel
theorem dX3_greatestWidth_30 : decode cX3_greatestWidth 30 = .ok (.iload 6, 2) := by decide +kernel
theorem dX3_greatestWidth_32 : decode cX3_greatestWidth 32 = .ok (.ishr, 1) := by decide +kernel
theorem dX3_greatestWidth_33 : decode cX3_greatestWidth 33 = .ok (.iconst 1, 1) := by decide +kernel
theorem dX3_greatestWidth_34 : decode cX3_greatestWidth 34 = .ok (.iand, 1) := by decide +kernel
theorem dX3_greatestWidth_35 : decode cX3_greatestWidth 35 = .ok (.iconst 1, 1) := by decide +kernel
theorem dX3_greatestWidth_36 : decode cX3_greatestWidth 36 = .ok (.if_icmp .ne 7, 3) := by decide +kernel
theorem dX3_greatestWidth_39 : decode cX3_greatestWidth 39 = .ok (.iconst 1, 1) := by decide +kernel
theorem dX3_greatestWidth_40 : decode cX3_greatestWidth 40 = .ok (.goto 4, 3) := by decide +kernel
theorem dX3_greatestWidth_43 : decode cX3_greatestWidth 43 = .ok (.iconst 0, 1) := by decide +kernel
theorem dX3_greatestWidth_44 : decode cX3_greatestWidth 44 = .ok (.istore 7, 2) := by decide +kernel
theorem dX3_greatestWidth_46 : decode cX3_greatestWidth 46 = .ok (.aload_n 0, 1) := by decide +kernel
theorem dX3_greatestWidth_47 : decode cX3_greatestWidth 47 = .ok (.getfield 15, 3) := by decide +kernel
theorem dX3_greatestWidth_50 : decode cX3_greatestWidth 50 = .ok (.iload 6, 2) := by decide +kernel
theorem dX3_greatestWidth_52 : decode cX3_greatestWidth 52 = .ok (.aload_n 1, 1) := by decide +kernel
theorem dX3_greatestWidth_53 : decode cX3_greatestWidth 53 = .ok (.getfield 44, 3) := by decide +kernel
theorem dX3_greatestWidth_56 : decode cX3_greatestWidth 56 = .ok (.aload_n 0, 1) := by decide +kernel
theorem dX3_greatestWidth_57 : decode cX3_greatestWidth 57 = .ok (.getfield 9, 3) := by decide +kernel
theorem dX3_greatestWidth_60 : decode cX3_greatestWidth 60 = .ok (.iload 6, 2) := by decide +kernel
theorem dX3_greatestWidth_62 : decode cX3_greatestWidth 62 = .ok (.iaload, 1) := by decide +kernel
theorem dX3_greatestWidth_63 : decode cX3_greatestWidth 63 = .ok (.iload 7, 2) := by decide +kernel
theorem dX3_greatestWidth_65 : decode cX3_greatestWidth 65 = .ok (.ifCond .eq 20, 3) := by decide +kernel
theorem dX3_greatestWidth_68 : decode cX3_greatestWidth 68 = .ok (.aload_n 1, 1) := by decide +kernel
theorem dX3_greatestWidth_69 : decode cX3_greatestWidth 69 = .ok (.getfield 44, 3) := by decide +kernel
theorem dX3_greatestWidth_72 : decode cX3_greatestWidth 72 = .ok (.aload_n 0, 1) := by decide +kernel
theorem dX3_greatestWidth_73 : decode cX3_greatestWidth 73 = .ok (.getfield 9, 3) := by decide +kernel
theorem dX3_greatestWidth_76 : decode cX3_greatestWidth 76 = .ok (.iload 6, 2) := by decide +kernel
theorem dX3_greatestWidth_78 : decode cX3_greatestWidth 78 = .ok (.iaload, 1) := by decide +kernel
theorem dX3_greatestWidth_79 : decode cX3_greatestWidth 79 = .ok (.invokevirtual 48, 3) := by decide +kernel
theorem dX3_greatestWidth_82 : decode cX3_greatestWidth 82 = .ok (.goto 4, 3) := by decide +kernel
theorem dX3_greatestWidth_85 : decode cX3_greatestWidth 85 = .ok (.iconst 0, 1) := by decide +kernel
theorem dX3_greatestWidth_86 : decode cX3_greatestWidth 86 = .ok (.invokevirtual 53, 3) := by decide +kernel
theorem dX3_greatestWidth_89 : decode cX3_greatestWidth 89 = .ok (.i2l, 1) := by decide +kernel
theorem dX3_greatestWidth_90 : decode cX3_greatestWidth 90 = .ok (.lastore, 1) := by decide +kernel
theorem dX3_greatestWidth_91 : decode cX3_greatestWidth 91 = .ok (.iinc 6 1, 3) := by decide +kernel
theorem dX3_greatestWidth_94 : decode cX3_greatestWidth 94 = .ok (.goto (-75), 3) := by decide +kernel
theorem dX3_greatestWidth_97 : decode cX3_greatestWidth 97 = .ok (.aload_n 1, 1) := by decide +kernel
theorem dX3_greatestWidth_98 : decode cX3_greatestWidth 98 = .ok (.aload_n 0, 1) := by decide +kernel
theorem dX3_greatestWidth_99 : decode cX3_greatestWidth 99 = .ok (.getfield 15, 3) := by decide +kernel
theorem dX3_greatestWidth_102 : decode cX3_greatestWidth 102 = .ok (.iload_n 2, 1) := by decide +kernel
theorem dX3_greatestWidth_103 : decode cX3_greatestWidth 103 = .ok (.invokevirtual 57, 3) := by decide +kernel
theorem dX3_greatestWidth_106 : decode cX3_greatestWidth 106 = .ok (.aload_n 1, 1) := by decide +kernel
theorem dX3_greatestWidth_107 : decode cX3_greatestWidth 107 = .ok (.aload_n 0, 1) := by decide +kernel
theorem dX3_greatestWidth_108 : decode cX3_greatestWidth 108 = .ok (.getfield 15, 3) := by decide +kernel
theorem dX3_greatestWidth_111 : decode cX3_greatestWidth 111 = .ok (.iload_n 2, 1) := by decide +kernel
theorem dX3_greatestWidth_112 : decode cX3_greatestWidth 112 = .ok (.ineg, 1) := by decide +kernel
theorem dX3_greatestWidth_113 : decode cX3_greatestWidth 113 = .ok (.invokevirtual 57, 3) := by decide +kernel
theorem dX3_greatestWidth_116 : decode cX3_greatestWidth 116 = .ok (.lsub, 1) := by decide +kernel
theorem dX3_greatestWidth_117 : decode cX3_greatestWidth 117 = .ok (.lstore 6, 2) := by decide +kernel
theorem dX3_greatestWidth_119 : decode cX3_greatestWidth 119 = .ok (.lload_n 3, 1) := by decide +kernel
theorem dX3_greatestWidth_120 : decode cX3_greatestWidth 120 = .ok (.lload 6, 2) := by decide +kernel
theorem dX3_greatestWidth_122 : decode cX3_greatestWidth 122 = .ok (.invokestatic 61, 3) := by decide +kernel
theorem dX3_greatestWidth_125 : decode cX3_greatestWidth 125 = .ok (.lstore_n 3, 1) := by decide +kernel
theorem dX3_greatestWidth_126 : decode cX3_greatestWidth 126 = .ok (.iinc 5 1, 3) := by decide +kernel
theorem dX3_greatestWidth_129 : decode cX3_greatestWidth 129 = .ok (.goto (-124), 3) := by decide +kernel
theorem dX3_greatestWidth_132 : decode cX3_greatestWidth 132 = .ok (.lload_n 3, 1) := by decide +kernel
theorem dX3_greatestWidth_133 : decode cX3_greatestWidth 133 = .ok (.lreturn, 1) := by decide +kernel
theorem dX3_digitsOfTried_0 : decode cX3_digitsOfTried 0 = .ok (.iconst 0, 1) := by decide +kernel
theorem dX3_digitsOfTried_1 : decode cX3_digitsOfTried 1 = .ok (.istore_n 2, 1) := by decide +kernel
theorem dX3_digitsOfTried_2 : decode cX3_digitsOfTried 2 = .ok (.iconst 0, 1) := by decide +kernel
theorem dX3_digitsOfTried_3 : decode cX3_digitsOfTried 3 = .ok (.istore_n 3, 1) := by decide +kernel
theorem dX3_digitsOfTried_4 : decode cX3_digitsOfTried 4 = .ok (.iload_n 3, 1) := by decide +kernel
theorem dX3_digitsOfTried_5 : decode cX3_digitsOfTried 5 = .ok (.iload_n 1, 1) := by decide +kernel
theorem dX3_digitsOfTried_6 : decode cX3_digitsOfTried 6 = .ok (.if_icmp .ge 21, 3) := by decide +kernel
theorem dX3_digitsOfTried_9 : decode cX3_digitsOfTried 9 = .ok (.iload_n 2, 1) := by decide +kernel
theorem dX3_digitsOfTried_10 : decode cX3_digitsOfTried 10 = .ok (.bipush 10, 2) := by decide +kernel
theorem dX3_digitsOfTried_12 : decode cX3_digitsOfTried 12 = .ok (.imul, 1) := by decide +kernel
theorem dX3_digitsOfTried_13 : decode cX3_digitsOfTried 13 = .ok (.aload_n 0, 1) := by decide +kernel
theorem dX3_digitsOfTried_14 : decode cX3_digitsOfTried 14 = .ok (.getfield 9, 3) := by decide +kernel
theorem dX3_digitsOfTried_17 : decode cX3_digitsOfTried 17 = .ok (.iload_n 3, 1) := by decide +kernel
theorem dX3_digitsOfTried_18 : decode cX3_digitsOfTried 18 = .ok (.iaload, 1) := by decide +kernel
theorem dX3_digitsOfTried_19 : decode cX3_digitsOfTried 19 = .ok (.iadd, 1) := by decide +kernel
theorem dX3_digitsOfTried_20 : decode cX3_digitsOfTried 20 = .ok (.istore_n 2, 1) := by decide +kernel
theorem dX3_digitsOfTried_21 : decode cX3_digitsOfTried 21 = .ok (.iinc 3 1, 3) := by decide +kernel
theorem dX3_digitsOfTried_24 : decode cX3_digitsOfTried 24 = .ok (.goto (-20), 3) := by decide +kernel
theorem dX3_digitsOfTried_27 : decode cX3_digitsOfTried 27 = .ok (.iload_n 2, 1) := by decide +kernel
theorem dX3_digitsOfTried_28 : decode cX3_digitsOfTried 28 = .ok (.ireturn, 1) := by decide +kernel
theorem dX3_goToNext_0 : decode cX3_goToNext 0 = .ok (.iload_n 1, 1) := by decide +kernel
theorem dX3_goToNext_1 : decode cX3_goToNext 1 = .ok (.iconst 2, 1) := by decide +kernel
theorem dX3_goToNext_2 : decode cX3_goToNext 2 = .ok (.isub, 1) := by decide +kernel
theorem dX3_goToNext_3 : decode cX3_goToNext 3 = .ok (.istore_n 2, 1) := by decide +kernel
theorem dX3_goToNext_4 : decode cX3_goToNext 4 = .ok (.iload_n 2, 1) := by decide +kernel
theorem dX3_goToNext_5 : decode cX3_goToNext 5 = .ok (.ifCond .lt 26, 3) := by decide +kernel
theorem dX3_goToNext_8 : decode cX3_goToNext 8 = .ok (.aload_n 0, 1) := by decide +kernel
theorem dX3_goToNext_9 : decode cX3_goToNext 9 = .ok (.getfield 9, 3) := by decide +kernel
theorem dX3_goToNext_12 : decode cX3_goToNext 12 = .ok (.iload_n 2, 1) := by decide +kernel
theorem dX3_goToNext_13 : decode cX3_goToNext 13 = .ok (.iaload, 1) := by decide +kernel
theorem dX3_goToNext_14 : decode cX3_goToNext 14 = .ok (.aload_n 0, 1) := by decide +kernel
theorem dX3_goToNext_15 : decode cX3_goToNext 15 = .ok (.getfield 9, 3) := by decide +kernel
theorem dX3_goToNext_18 : decode cX3_goToNext 18 = .ok (.iload_n 2, 1) := by decide +kernel
theorem dX3_goToNext_19 : decode cX3_goToNext 19 = .ok (.iconst 1, 1) := by decide +kernel
theorem dX3_goToNext_20 : decode cX3_goToNext 20 = .ok (.iadd, 1) := by decide +kernel
theorem dX3_goToNext_21 : decode cX3_goToNext 21 = .ok (.iaload, 1) := by decide +kernel
theorem dX3_goToNext_22 : decode cX3_goToNext 22 = .ok (.if_icmp .le 9, 3) := by decide +kernel
theorem dX3_goToNext_25 : decode cX3_goToNext 25 = .ok (.iinc 2 (-1), 3) := by decide +kernel
theorem dX3_goToNext_28 : decode cX3_goToNext 28 = .ok (.goto (-24), 3) := by decide +kernel
theorem dX3_goToNext_31 : decode cX3_goToNext 31 = .ok (.iload_n 2, 1) := by decide +kernel
theorem dX3_goToNext_32 : decode cX3_goToNext 32 = .ok (.ifCond .ge 5, 3) := by decide +kernel
theorem dX3_goToNext_35 : decode cX3_goToNext 35 = .ok (.iconst 0, 1) := by decide +kernel
theorem dX3_goToNext_36 : decode cX3_goToNext 36 = .ok (.ireturn, 1) := by decide +kernel
theorem dX3_goToNext_37 : decode cX3_goToNext 37 = .ok (.iload_n 1, 1) := by decide +kernel
theorem dX3_goToNext_38 : decode cX3_goToNext 38 = .ok (.iconst 1, 1) := by decide +kernel
theorem dX3_goToNext_39 : decode cX3_goToNext 39 = .ok (.isub, 1) := by decide +kernel
theorem dX3_goToNext_40 : decode cX3_goToNext 40 = .ok (.istore_n 3, 1) := by decide +kernel
theorem dX3_goToNext_41 : decode cX3_goToNext 41 = .ok (.iload_n 3, 1) := by decide +kernel
theorem dX3_goToNext_42 : decode cX3_goToNext 42 = .ok (.iload_n 2, 1) := by decide +kernel
theorem dX3_goToNext_43 : decode cX3_goToNext 43 = .ok (.if_icmp .le 24, 3) := by decide +kernel
theorem dX3_goToNext_46 : decode cX3_goToNext 46 = .ok (.aload_n 0, 1) := by decide +kernel
theorem dX3_goToNext_47 : decode cX3_goToNext 47 = .ok (.getfield 9, 3) := by decide +kernel
theorem dX3_goToNext_50 : decode cX3_goToNext 50 = .ok (.iload_n 3, 1) := by decide +kernel
theorem dX3_goToNext_51 : decode cX3_goToNext 51 = .ok (.iaload, 1) := by decide +kernel
theorem dX3_goToNext_52 : decode cX3_goToNext 52 = .ok (.aload_n 0, 1) := by decide +kernel
theorem dX3_goToNext_53 : decode cX3_goToNext 53 = .ok (.getfield 9, 3) := by decide +kernel
theorem dX3_goToNext_56 : decode cX3_goToNext 56 = .ok (.iload_n 2, 1) := by decide +kernel
theorem dX3_goToNext_57 : decode cX3_goToNext 57 = .ok (.iaload, 1) := by decide +kernel
theorem dX3_goToNext_58 : decode cX3_goToNext 58 = .ok (.if_icmp .ge 9, 3) := by decide +kernel
theorem dX3_goToNext_61 : decode cX3_goToNext 61 = .ok (.iinc 3 (-1), 3) := by decide +kernel
theorem dX3_goToNext_64 : decode cX3_goToNext 64 = .ok (.goto (-23), 3) := by decide +kernel
theorem dX3_goToNext_67 : decode cX3_goToNext 67 = .ok (.aload_n 0, 1) := by decide +kernel
theorem dX3_goToNext_68 : decode cX3_goToNext 68 = .ok (.iload_n 2, 1) := by decide +kernel
theorem dX3_goToNext_69 : decode cX3_goToNext 69 = .ok (.iload_n 3, 1) := by decide +kernel
theorem dX3_goToNext_70 : decode cX3_goToNext 70 = .ok (.invokevirtual 67, 3) := by decide +kernel
theorem dX3_goToNext_73 : decode cX3_goToNext 73 = .ok (.iload_n 2, 1) := by decide +kernel
theorem dX3_goToNext_74 : decode cX3_goToNext 74 = .ok (.iconst 1, 1) := by decide +kernel
theorem dX3_goToNext_75 : decode cX3_goToNext 75 = .ok (.iadd, 1) := by decide +kernel
theorem dX3_goToNext_76 : decode cX3_goToNext 76 = .ok (.istore 4, 2) := by decide +kernel
theorem dX3_goToNext_78 : decode cX3_goToNext 78 = .ok (.iload_n 1, 1) := by decide +kernel
theorem dX3_goToNext_79 : decode cX3_goToNext 79 = .ok (.iconst 1, 1) := by decide +kernel
theorem dX3_goToNext_80 : decode cX3_goToNext 80 = .ok (.isub, 1) := by decide +kernel
theorem dX3_goToNext_81 : decode cX3_goToNext 81 = .ok (.istore 5, 2) := by decide +kernel
theorem dX3_goToNext_83 : decode cX3_goToNext 83 = .ok (.iload 4, 2) := by decide +kernel
theorem dX3_goToNext_85 : decode cX3_goToNext 85 = .ok (.iload 5, 2) := by decide +kernel
theorem dX3_goToNext_87 : decode cX3_goToNext 87 = .ok (.if_icmp .ge 20, 3) := by decide +kernel
theorem dX3_goToNext_90 : decode cX3_goToNext 90 = .ok (.aload_n 0, 1) := by decide +kernel
theorem dX3_goToNext_91 : decode cX3_goToNext 91 = .ok (.iload 4, 2) := by decide +kernel
theorem dX3_goToNext_93 : decode cX3_goToNext 93 = .ok (.iload 5, 2) := by decide +kernel
theorem dX3_goToNext_95 : decode cX3_goToNext 95 = .ok (.invokevirtual 67, 3) := by decide +kernel
theorem dX3_goToNext_98 : decode cX3_goToNext 98 = .ok (.iinc 4 1, 3) := by decide +kernel
theorem dX3_goToNext_101 : decode cX3_goToNext 101 = .ok (.iinc 5 (-1), 3) := by decide +kernel
theorem dX3_goToNext_104 : decode cX3_goToNext 104 = .ok (.goto (-21), 3) := by decide +kernel
theorem dX3_goToNext_107 : decode cX3_goToNext 107 = .ok (.iconst 1, 1) := by decide +kernel
theorem dX3_goToNext_108 : decode cX3_goToNext 108 = .ok (.ireturn, 1) := by decide +kernel
theorem dX3_swap_0 : decode cX3_swap 0 = .ok (.aload_n 0, 1) := by decide +kernel
theorem dX3_swap_1 : decode cX3_swap 1 = .ok (.getfield 9, 3) := by decide +kernel
theorem dX3_swap_4 : decode cX3_swap 4 = .ok (.iload_n 1, 1) := by decide +kernel
theorem dX3_swap_5 : decode cX3_swap 5 = .ok (.iaload, 1) := by decide +kernel
theorem dX3_swap_6 : decode cX3_swap 6 = .ok (.istore_n 3, 1) := by decide +kernel
theorem dX3_swap_7 : decode cX3_swap 7 = .ok (.aload_n 0, 1) := by decide +kernel
theorem dX3_swap_8 : decode cX3_swap 8 = .ok (.getfield 9, 3) := by decide +kernel
theorem dX3_swap_11 : decode cX3_swap 11 = .ok (.iload_n 1, 1) := by decide +kernel
theorem dX3_swap_12 : decode cX3_swap 12 = .ok (.aload_n 0, 1) := by decide +kernel
theorem dX3_swap_13 : decode cX3_swap 13 = .ok (.getfield 9, 3) := by decide +kernel
theorem dX3_swap_16 : decode cX3_swap 16 = .ok (.iload_n 2, 1) := by decide +kernel
theorem dX3_swap_17 : decode cX3_swap 17 = .ok (.iaload, 1) := by decide +kernel
theorem dX3_swap_18 : decode cX3_swap 18 = .ok (.iastore, 1) := by decide +kernel
theorem dX3_swap_19 : decode cX3_swap 19 = .ok (.aload_n 0, 1) := by decide +kernel
theorem dX3_swap_20 : decode cX3_swap 20 = .ok (.getfield 9, 3) := by decide +kernel
theorem dX3_swap_23 : decode cX3_swap 23 = .ok (.iload_n 2, 1) := by decide +kernel
theorem dX3_swap_24 : decode cX3_swap 24 = .ok (.iload_n 3, 1) := by decide +kernel
theorem dX3_swap_25 : decode cX3_swap 25 = .ok (.iastore, 1) := by decide +kernel
theorem dX3_swap_26 : decode cX3_swap 26 = .ok (.return_, 1) := by decide +kernel
theorem dX4_init_0 : decode cX4_init 0 = .ok (.aload_n 0, 1) := by decide +kernel
theorem dX4_init_1 : decode cX4_init 1 = .ok (.invokespecial 1, 3) := by decide +kernel
theorem dX4_init_4 : decode cX4_init 4 = .ok (.return_, 1) := by decide +kernel
theorem dX4_put_0 : decode cX4_put 0 = .ok (.aload_n 0, 1) := by decide +kernel
theorem dX4_put_1 : decode cX4_put 1 = .ok (.iload_n 1, 1) := by decide +kernel
theorem dX4_put_2 : decode cX4_put 2 = .ok (.putfield 7, 3) := by decide +kernel
theorem dX4_put_5 : decode cX4_put 5 = .ok (.aload_n 0, 1) := by decide +kernel
theorem dX4_put_6 : decode cX4_put 6 = .ok (.iload_n 2, 1) := by decide +kernel
theorem dX4_put_7 : decode cX4_put 7 = .ok (.putfield 13, 3) := by decide +kernel
theorem dX4_put_10 : decode cX4_put 10 = .ok (.aload_n 0, 1) := by decide +kernel
theorem dX4_put_11 : decode cX4_put 11 = .ok (.iload_n 3, 1) := by decide +kernel
theorem dX4_put_12 : decode cX4_put 12 = .ok (.putfield 16, 3) := by decide +kernel
theorem dX4_put_15 : decode cX4_put 15 = .ok (.return_, 1) := by decide +kernel
theorem dX4_lies_0 : decode cX4_lies 0 = .ok (.lload_n 1, 1) := by decide +kernel
theorem dX4_lies_1 : decode cX4_lies 1 = .ok (.aload_n 0, 1) := by decide +kernel
theorem dX4_lies_2 : decode cX4_lies 2 = .ok (.getfield 7, 3) := by decide +kernel
theorem dX4_lies_5 : decode cX4_lies 5 = .ok (.i2l, 1) := by decide +kernel
theorem dX4_lies_6 : decode cX4_lies 6 = .ok (.lcmp, 1) := by decide +kernel
theorem dX4_lies_7 : decode cX4_lies 7 = .ok (.ifCond .gt 17, 3) := by decide +kernel
theorem dX4_lies_10 : decode cX4_lies 10 = .ok (.lload_n 1, 1) := by decide +kernel
theorem dX4_lies_11 : decode cX4_lies 11 = .ok (.lload_n 1, 1) := by decide +kernel
theorem dX4_lies_12 : decode cX4_lies 12 = .ok (.aload_n 0, 1) := by decide +kernel
theorem dX4_lies_13 : decode cX4_lies 13 = .ok (.getfield 13, 3) := by decide +kernel
theorem dX4_lies_16 : decode cX4_lies 16 = .ok (.i2l, 1) := by decide +kernel
theorem dX4_lies_17 : decode cX4_lies 17 = .ok (.lmul, 1) := by decide +kernel
theorem dX4_lies_18 : decode cX4_lies 18 = .ok (.ldc2_w 19, 3) := by decide +kernel
theorem dX4_lies_21 : decode cX4_lies 21 = .ok (.ldiv, 1) := by decide +kernel
theorem dX4_lies_22 : decode cX4_lies 22 = .ok (.ladd, 1) := by decide +kernel
theorem dX4_lies_23 : decode cX4_lies 23 = .ok (.lreturn, 1) := by decide +kernel
theorem dX4_lies_24 : decode cX4_lies 24 = .ok (.lload_n 1, 1) := by decide +kernel
theorem dX4_lies_25 : decode cX4_lies 25 = .ok (.aload_n 0, 1) := by decide +kernel
theorem dX4_lies_26 : decode cX4_lies 26 = .ok (.getfield 7, 3) := by decide +kernel
theorem dX4_lies_29 : decode cX4_lies 29 = .ok (.i2l, 1) := by decide +kernel
theorem dX4_lies_30 : decode cX4_lies 30 = .ok (.lsub, 1) := by decide +kernel
theorem dX4_lies_31 : decode cX4_lies 31 = .ok (.lstore_n 3, 1) := by decide +kernel
theorem dX4_lies_32 : decode cX4_lies 32 = .ok (.aload_n 0, 1) := by decide +kernel
theorem dX4_lies_33 : decode cX4_lies 33 = .ok (.getfield 7, 3) := by decide +kernel
theorem dX4_lies_36 : decode cX4_lies 36 = .ok (.i2l, 1) := by decide +kernel
theorem dX4_lies_37 : decode cX4_lies 37 = .ok (.aload_n 0, 1) := by decide +kernel
theorem dX4_lies_38 : decode cX4_lies 38 = .ok (.getfield 7, 3) := by decide +kernel
theorem dX4_lies_41 : decode cX4_lies 41 = .ok (.i2l, 1) := by decide +kernel
theorem dX4_lies_42 : decode cX4_lies 42 = .ok (.aload_n 0, 1) := by decide +kernel
theorem dX4_lies_43 : decode cX4_lies 43 = .ok (.getfield 13, 3) := by decide +kernel
theorem dX4_lies_46 : decode cX4_lies 46 = .ok (.i2l, 1) := by decide +kernel
theorem dX4_lies_47 : decode cX4_lies 47 = .ok (.lmul, 1) := by decide +kernel
theorem dX4_lies_48 : decode cX4_lies 48 = .ok (.ldc2_w 19, 3) := by decide +kernel
theorem dX4_lies_51 : decode cX4_lies 51 = .ok (.ldiv, 1) := by decide +kernel
theorem dX4_lies_52 : decode cX4_lies 52 = .ok (.ladd, 1) := by decide +kernel
theorem dX4_lies_53 : decode cX4_lies 53 = .ok (.lload_n 3, 1) := by decide +kernel
theorem dX4_lies_54 : decode cX4_lies 54 = .ok (.ladd, 1) := by decide +kernel
theorem dX4_lies_55 : decode cX4_lies 55 = .ok (.lload_n 3, 1) := by decide +kernel
theorem dX4_lies_56 : decode cX4_lies 56 = .ok (.aload_n 0, 1) := by decide +kernel
theorem dX4_lies_57 : decode cX4_lies 57 = .ok (.getfield 16, 3) := by decide +kernel
theorem dX4_lies_60 : decode cX4_lies 60 = .ok (.i2l, 1) := by decide +kernel
theorem dX4_lies_61 : decode cX4_lies 61 = .ok (.lmul, 1) := by decide +kernel
theorem dX4_lies_62 : decode cX4_lies 62 = .ok (.ldc2_w 19, 3) := by decide +kernel
theorem dX4_lies_65 : decode cX4_lies 65 = .ok (.ldiv, 1) := by decide +kernel
theorem dX4_lies_66 : decode cX4_lies 66 = .ok (.ladd, 1) := by decide +kernel
theorem dX4_lies_67 : decode cX4_lies 67 = .ok (.lreturn, 1) := by decide +kernel
theorem dX4_placeReadAt_0 : decode cX4_placeReadAt 0 = .ok (.lload_n 1, 1) := by decide +kernel
theorem dX4_placeReadAt_1 : decode cX4_placeReadAt 1 = .ok (.invokestatic 21, 3) := by decide +kernel
theorem dX4_placeReadAt_4 : decode cX4_placeReadAt 4 = .ok (.ldc2_w 27, 3) := by decide +kernel
theorem dX4_placeReadAt_7 : decode cX4_placeReadAt 7 = .ok (.ldiv, 1) := by decide +kernel
theorem dX4_placeReadAt_8 : decode cX4_placeReadAt 8 = .ok (.ldc2_w 29, 3) := by decide +kernel
theorem dX4_placeReadAt_11 : decode cX4_placeReadAt 11 = .ok (.ladd, 1) := by decide +kernel
theorem dX4_placeReadAt_12 : decode cX4_placeReadAt 12 = .ok (.lstore_n 3, 1) := by decide +kernel
theorem dX4_placeReadAt_13 : decode cX4_placeReadAt 13 = .ok (.lload_n 1, 1) := by decide +kernel
theorem dX4_placeReadAt_14 : decode cX4_placeReadAt 14 = .ok (.lload_n 3, 1) := by decide +kernel
theorem dX4_placeReadAt_15 : decode cX4_placeReadAt 15 = .ok (.lsub, 1) := by decide +kernel
theorem dX4_placeReadAt_16 : decode cX4_placeReadAt 16 = .ok (.lstore 5, 2) := by decide +kernel
theorem dX4_placeReadAt_18 : decode cX4_placeReadAt 18 = .ok (.lload_n 1, 1) := by decide +kernel
theorem dX4_placeReadAt_19 : decode cX4_placeReadAt 19 = .ok (.lload_n 3, 1) := by decide +kernel
theorem dX4_placeReadAt_20 : decode cX4_placeReadAt 20 = .ok (.ladd, 1) := by decide +kernel
theorem dX4_placeReadAt_21 : decode cX4_placeReadAt 21 = .ok (.lstore 7, 2) := by decide +kernel
theorem dX4_placeReadAt_23 : decode cX4_placeReadAt 23 = .ok (.iconst 0, 1) := by decide +kernel
theorem dX4_placeReadAt_24 : decode cX4_placeReadAt 24 = .ok (.istore 9, 2) := by decide +kernel
theorem dX4_placeReadAt_26 : decode cX4_placeReadAt 26 = .ok (.iload 9, 2) := by decide +kernel
theorem dX4_placeReadAt_28 : decode cX4_placeReadAt 28 = .ok (.bipush 64, 2) := by decide +kernel
theorem dX4_placeReadAt_30 : decode cX4_placeReadAt 30 = .ok (.if_icmp .ge 55, 3) := by decide +kernel
theorem dX4_placeReadAt_33 : decode cX4_placeReadAt 33 = .ok (.lload 7, 2) := by decide +kernel
theorem dX4_placeReadAt_35 : decode cX4_placeReadAt 35 = .ok (.lload 5, 2) := by decide +kernel
theorem dX4_placeReadAt_37 : decode cX4_placeReadAt 37 = .ok (.lsub, 1) := by decide +kernel
theorem dX4_placeReadAt_38 : decode cX4_placeReadAt 38 = .ok (.lconst 1, 1) := by decide +kernel
theorem dX4_placeReadAt_39 : decode cX4_placeReadAt 39 = .ok (.lcmp, 1) := by decide +kernel
theorem dX4_placeReadAt_40 : decode cX4_placeReadAt 40 = .ok (.ifCond .le 45, 3) := by decide +kernel
theorem dX4_placeReadAt_43 : decode cX4_placeReadAt 43 = .ok (.lload 5, 2) := by decide +kernel
theorem dX4_placeReadAt_45 : decode cX4_placeReadAt 45 = .ok (.lload 7, 2) := by decide +kernel
theorem dX4_placeReadAt_47 : decode cX4_placeReadAt 47 = .ok (.lload 5, 2) := by decide +kernel
theorem dX4_placeReadAt_49 : decode cX4_placeReadAt 49 = .ok (.lsub, 1) := by decide +kernel
theorem dX4_placeReadAt_50 : decode cX4_placeReadAt 50 = .ok (.ldc2_w 31, 3) := by decide +kernel
theorem dX4_placeReadAt_53 : decode cX4_placeReadAt 53 = .ok (.ldiv, 1) := by decide +kernel
theorem dX4_placeReadAt_54 : decode cX4_placeReadAt 54 = .ok (.ladd, 1) := by decide +kernel
theorem dX4_placeReadAt_55 : decode cX4_placeReadAt 55 = .ok (.lstore 10, 2) := by decide +kernel
theorem dX4_placeReadAt_57 : decode cX4_placeReadAt 57 = .ok (.aload_n 0, 1) := by decide +kernel
theorem dX4_placeReadAt_58 : decode cX4_placeReadAt 58 = .ok (.lload 10, 2) := by decide +kernel
theorem dX4_placeReadAt_60 : decode cX4_placeReadAt 60 = .ok (.invokevirtual 33, 3) := by decide +kernel
theorem dX4_placeReadAt_63 : decode cX4_placeReadAt 63 = .ok (.lload_n 1, 1) := by decide +kernel
theorem dX4_placeReadAt_64 : decode cX4_placeReadAt 64 = .ok (.lcmp, 1) := by decide +kernel
theorem dX4_placeReadAt_65 : decode cX4_placeReadAt 65 = .ok (.ifCond .gt 10, 3) := by decide +kernel
theorem dX4_placeReadAt_68 : decode cX4_placeReadAt 68 = .ok (.lload 10, 2) := by decide +kernel
theorem dX4_placeReadAt_70 : decode cX4_placeReadAt 70 = .ok (.lstore 5, 2) := by decide +kernel
theorem dX4_placeReadAt_72 : decode cX4_placeReadAt 72 = .ok (.goto 7, 3) := by decide +kernel
theorem dX4_placeReadAt_75 : decode cX4_placeReadAt 75 = .ok (.lload 10, 2) := by decide +kernel
theorem dX4_placeReadAt_77 : decode cX4_placeReadAt 77 = .ok (.lstore 7, 2) := by decide +kernel
theorem dX4_placeReadAt_79 : decode cX4_placeReadAt 79 = .ok (.iinc 9 1, 3) := by decide +kernel
theorem dX4_placeReadAt_82 : decode cX4_placeReadAt 82 = .ok (.goto (-56), 3) := by decide +kernel
theorem dX4_placeReadAt_85 : decode cX4_placeReadAt 85 = .ok (.lload 5, 2) := by decide +kernel
theorem dX4_placeReadAt_87 : decode cX4_placeReadAt 87 = .ok (.lreturn, 1) := by decide +kernel
theorem dX5_init_0 : decode cX5_init 0 = .ok (.aload_n 0, 1) := by decide +kernel
theorem dX5_init_1 : decode cX5_init 1 = .ok (.invokespecial 3, 3) := by decide +kernel
theorem dX5_init_4 : decode cX5_init 4 = .ok (.aload_n 0, 1) := by decide +kernel
theorem dX5_init_5 : decode cX5_init 5 = .ok (.iconst 5, 1) := by decide +kernel
theorem dX5_init_6 : decode cX5_init 6 = .ok (.newarray .int, 2) := by decide +kernel
theorem dX5_init_8 : decode cX5_init 8 = .ok (.putfield 9, 3) := by decide +kernel
theorem dX5_init_11 : decode cX5_init 11 = .ok (.aload_n 0, 1) := by decide +kernel
theorem dX5_init_12 : decode cX5_init 12 = .ok (.iconst 5, 1) := by decide +kernel
theorem dX5_init_13 : decode cX5_init 13 = .ok (.newarray .int, 2) := by decide +kernel
theorem dX5_init_15 : decode cX5_init 15 = .ok (.putfield 15, 3) := by decide +kernel
theorem dX5_init_18 : decode cX5_init 18 = .ok (.return_, 1) := by decide +kernel
theorem dX5_faultOf_0 : decode cX5_faultOf 0 = .ok (.aload_n 0, 1) := by decide +kernel
theorem dX5_faultOf_1 : decode cX5_faultOf 1 = .ok (.invokevirtual 18, 3) := by decide +kernel
theorem dX5_faultOf_4 : decode cX5_faultOf 4 = .ok (.iconst (-1), 1) := by decide +kernel
theorem dX5_faultOf_5 : decode cX5_faultOf 5 = .ok (.istore_n 2, 1) := by decide +kernel
theorem dX5_faultOf_6 : decode cX5_faultOf 6 = .ok (.iconst 0, 1) := by decide +kernel
theorem dX5_faultOf_7 : decode cX5_faultOf 7 = .ok (.istore_n 3, 1) := by decide +kernel
theorem dX5_faultOf_8 : decode cX5_faultOf 8 = .ok (.iconst 0, 1) := by decide +kernel
theorem dX5_faultOf_9 : decode cX5_faultOf 9 = .ok (.istore 4, 2) := by decide +kernel
theorem dX5_faultOf_11 : decode cX5_faultOf 11 = .ok (.iload 4, 2) := by decide +kernel
theorem dX5_faultOf_13 : decode cX5_faultOf 13 = .ok (.aload_n 1, 1) := by decide +kernel
theorem dX5_faultOf_14 : decode cX5_faultOf 14 = .ok (.getfield 21, 3) := by decide +kernel
theorem dX5_faultOf_17 : decode cX5_faultOf 17 = .ok (.if_icmp .ge 103, 3) := by decide +kernel
theorem dX5_faultOf_20 : decode cX5_faultOf 20 = .ok (.aload_n 1, 1) := by decide +kernel
theorem dX5_faultOf_21 : decode cX5_faultOf 21 = .ok (.iload 4, 2) := by decide +kernel
theorem dX5_faultOf_23 : decode cX5_faultOf 23 = .ok (.invokevirtual 27, 3) := by decide +kernel
theorem dX5_faultOf_26 : decode cX5_faultOf 26 = .ok (.istore 5, 2) := by decide +kernel
theorem dX5_faultOf_28 : decode cX5_faultOf 28 = .ok (.iload 5, 2) := by decide +kernel
theorem dX5_faultOf_30 : decode cX5_faultOf 30 = .ok (.bipush 48, 2) := by decide +kernel
theorem dX5_faultOf_32 : decode cX5_faultOf 32 = .ok (.if_icmp .lt 51, 3) := by decide +kernel
theorem dX5_faultOf_35 : decode cX5_faultOf 35 = .ok (.iload 5, 2) := by decide +kernel
theorem dX5_faultOf_37 : decode cX5_faultOf 37 = .ok (.bipush 57, 2) := by decide +kernel
theorem dX5_faultOf_39 : decode cX5_faultOf 39 = .ok (.if_icmp .gt 44, 3) := by decide +kernel
theorem dX5_faultOf_42 : decode cX5_faultOf 42 = .ok (.iload_n 2, 1) := by decide +kernel
theorem dX5_faultOf_43 : decode cX5_faultOf 43 = .ok (.iconst (-1), 1) := by decide +kernel
theorem dX5_faultOf_44 : decode cX5_faultOf 44 = .ok (.if_icmp .ne 19, 3) := by decide +kernel
theorem dX5_faultOf_47 : decode cX5_faultOf 47 = .ok (.aload_n 0, 1) := by decide +kernel
theorem dX5_faultOf_48 : decode cX5_faultOf 48 = .ok (.getfield 31, 3) := by decide +kernel
theorem dX5_faultOf_51 : decode cX5_faultOf 51 = .ok (.iconst 3, 1) := by decide +kernel
theorem dX5_faultOf_52 : decode cX5_faultOf 52 = .ok (.if_icmp .eq 6, 3) := by decide +kernel
theorem dX5_faultOf_55 : decode cX5_faultOf 55 = .ok (.iload 4, 2) := by decide +kernel
theorem dX5_faultOf_57 : decode cX5_faultOf 57 = .ok (.ireturn, 1) := by decide +kernel
theorem dX5_faultOf_58 : decode cX5_faultOf 58 = .ok (.iload 4, 2) := by decide +kernel
theorem dX5_faultOf_60 : decode cX5_faultOf 60 = .ok (.istore_n 2, 1) := by decide +kernel
theorem dX5_faultOf_61 : decode cX5_faultOf 61 = .ok (.iconst 0, 1) := by decide +kernel
theorem dX5_faultOf_62 : decode cX5_faultOf 62 = .ok (.istore_n 3, 1) := by decide +kernel
theorem dX5_faultOf_63 : decode cX5_faultOf 63 = .ok (.iload_n 3, 1) := by decide +kernel
theorem dX5_faultOf_64 : decode cX5_faultOf 64 = .ok (.bipush 10, 2) := by decide +kernel
theorem dX5_faultOf_66 : decode cX5_faultOf 66 = .ok (.imul, 1) := by decide +kernel
theorem dX5_faultOf_67 : decode cX5_faultOf 67 = .ok (.iload 5, 2) := by decide +kernel
theorem dX5_faultOf_69 : decode cX5_faultOf 69 = .ok (.bipush 48, 2) := by decide +kernel
theorem dX5_faultOf_71 : decode cX5_faultOf 71 = .ok (.isub, 1) := by decide +kernel
theorem dX5_faultOf_72 : decode cX5_faultOf 72 = .ok (.iadd, 1) := by decide +kernel
theorem dX5_faultOf_73 : decode cX5_faultOf 73 = .ok (.istore_n 3, 1) := by decide +kernel
theorem dX5_faultOf_74 : decode cX5_faultOf 74 = .ok (.iload_n 3, 1) := by decide +kernel
theorem dX5_faultOf_75 : decode cX5_faultOf 75 = .ok (.sipush 9999, 3) := by decide +kernel
theorem dX5_faultOf_78 : decode cX5_faultOf 78 = .ok (.if_icmp .le 36, 3) := by decide +kernel
theorem dX5_faultOf_81 : decode cX5_faultOf 81 = .ok (.iload_n 2, 1) := by decide +kernel
theorem dX5_faultOf_82 : decode cX5_faultOf 82 = .ok (.ireturn, 1) := by decide +kernel
theorem dX5_faultOf_83 : decode cX5_faultOf 83 = .ok (.iload_n 2, 1) := by decide +kernel
theorem dX5_faultOf_84 : decode cX5_faultOf 84 = .ok (.iconst (-1), 1) := by decide +kernel
theorem dX5_faultOf_85 : decode cX5_faultOf 85 = .ok (.if_icmp .eq 10, 3) := by decide +kernel
theorem dX5_faultOf_88 : decode cX5_faultOf 88 = .ok (.aload_n 0, 1) := by decide +kernel
theorem dX5_faultOf_89 : decode cX5_faultOf 89 = .ok (.iload_n 3, 1) := by decide +kernel
theorem dX5_faultOf_90 : decode cX5_faultOf 90 = .ok (.invokevirtual 34, 3) := by decide +kernel
theorem dX5_faultOf_93 : decode cX5_faultOf 93 = .ok (.iconst (-1), 1) := by decide +kernel
theorem dX5_faultOf_94 : decode cX5_faultOf 94 = .ok (.istore_n 2, 1) := by decide +kernel
theorem dX5_faultOf_95 : decode cX5_faultOf 95 = .ok (.iload 5, 2) := by decide +kernel
theorem dX5_faultOf_97 : decode cX5_faultOf 97 = .ok (.bipush 32, 2) := by decide +kernel
theorem dX5_faultOf_99 : decode cX5_faultOf 99 = .ok (.if_icmp .eq 15, 3) := by decide +kernel
theorem dX5_faultOf_102 : decode cX5_faultOf 102 = .ok (.aload_n 0, 1) := by decide +kernel
theorem dX5_faultOf_103 : decode cX5_faultOf 103 = .ok (.iload 5, 2) := by decide +kernel
theorem dX5_faultOf_105 : decode cX5_faultOf 105 = .ok (.invokevirtual 38, 3) := by decide +kernel
theorem dX5_faultOf_108 : decode cX5_faultOf 108 = .ok (.ifCond .ne 6, 3) := by decide +kernel
theorem dX5_faultOf_111 : decode cX5_faultOf 111 = .ok (.iload 4, 2) := by decide +kernel
theorem dX5_faultOf_113 : decode cX5_faultOf 113 = .ok (.ireturn, 1) := by decide +kernel
theorem dX5_faultOf_114 : decode cX5_faultOf 114 = .ok (.iinc 4 1, 3) := by decide +kernel
theorem dX5_faultOf_117 : decode cX5_faultOf 117 = .ok (.goto (-106), 3) := by decide +kernel
theorem dX5_faultOf_120 : decode cX5_faultOf 120 = .ok (.aload_n 0, 1) := by decide +kernel
theorem dX5_faultOf_121 : decode cX5_faultOf 121 = .ok (.getfield 31, 3) := by decide +kernel
theorem dX5_faultOf_124 : decode cX5_faultOf 124 = .ok (.bipush 8, 2) := by decide +kernel
theorem dX5_faultOf_126 : decode cX5_faultOf 126 = .ok (.if_icmp .ne 7, 3) := by decide +kernel
theorem dX5_faultOf_129 : decode cX5_faultOf 129 = .ok (.iconst (-1), 1) := by decide +kernel
theorem dX5_faultOf_130 : decode cX5_faultOf 130 = .ok (.goto 7, 3) := by decide +kernel
theorem dX5_faultOf_133 : decode cX5_faultOf 133 = .ok (.aload_n 1, 1) := by decide +kernel
theorem dX5_faultOf_134 : decode cX5_faultOf 134 = .ok (.getfield 21, 3) := by decide +kernel
theorem dX5_faultOf_137 : decode cX5_faultOf 137 = .ok (.ireturn, 1) := by decide +kernel
theorem dX5_startOver_0 : decode cX5_startOver 0 = .ok (.aload_n 0, 1) := by decide +kernel
theorem dX5_startOver_1 : decode cX5_startOver 1 = .ok (.iconst 0, 1) := by decide +kernel
theorem dX5_startOver_2 : decode cX5_startOver 2 = .ok (.putfield 42, 3) := by decide +kernel
theorem dX5_startOver_5 : decode cX5_startOver 5 = .ok (.aload_n 0, 1) := by decide +kernel
theorem dX5_startOver_6 : decode cX5_startOver 6 = .ok (.iconst 0, 1) := by decide +kernel
theorem dX5_startOver_7 : decode cX5_startOver 7 = .ok (.putfield 45, 3) := by decide +kernel
theorem dX5_startOver_10 : decode cX5_startOver 10 = .ok (.aload_n 0, 1) := by decide +kernel
theorem dX5_startOver_11 : decode cX5_startOver 11 = .ok (.iconst 0, 1) := by decide +kernel
theorem dX5_startOver_12 : decode cX5_startOver 12 = .ok (.putfield 31, 3) := by decide +kernel
theorem dX5_startOver_15 : decode cX5_startOver 15 = .ok (.aload_n 0, 1) := by decide +kernel
theorem dX5_startOver_16 : decode cX5_startOver 16 = .ok (.iconst 1, 1) := by decide +kernel
theorem dX5_startOver_17 : decode cX5_startOver 17 = .ok (.putfield 48, 3) := by decide +kernel
theorem dX5_startOver_20 : decode cX5_startOver 20 = .ok (.aload_n 0, 1) := by decide +kernel
theorem dX5_startOver_21 : decode cX5_startOver 21 = .ok (.iconst 0, 1) := by decide +kernel
theorem dX5_startOver_22 : decode cX5_startOver 22 = .ok (.putfield 51, 3) := by decide +kernel
theorem dX5_startOver_25 : decode cX5_startOver 25 = .ok (.aload_n 0, 1) := by decide +kernel
theorem dX5_startOver_26 : decode cX5_startOver 26 = .ok (.iconst 0, 1) := by decide +kernel
theorem dX5_startOver_27 : decode cX5_startOver 27 = .ok (.putfield 54, 3) := by decide +kernel
theorem dX5_startOver_30 : decode cX5_startOver 30 = .ok (.return_, 1) := by decide +kernel
theorem dX5_takeNumber_0 : decode cX5_takeNumber 0 = .ok (.aload_n 0, 1) := by decide +kernel
theorem dX5_takeNumber_1 : decode cX5_takeNumber 1 = .ok (.dup, 1) := by decide +kernel
theorem dX5_takeNumber_2 : decode cX5_takeNumber 2 = .ok (.getfield 45, 3) := by decide +kernel
theorem dX5_takeNumber_5 : decode cX5_takeNumber 5 = .ok (.aload_n 0, 1) := by decide +kernel
theorem dX5_takeNumber_6 : decode cX5_takeNumber 6 = .ok (.getfield 48, 3) := by decide +kernel
theorem dX5_takeNumber_9 : decode cX5_takeNumber 9 = .ok (.iload_n 1, 1) := by decide +kernel
theorem dX5_takeNumber_10 : decode cX5_takeNumber 10 = .ok (.imul, 1) := by decide +kernel
theorem dX5_takeNumber_11 : decode cX5_takeNumber 11 = .ok (.iadd, 1) := by decide +kernel
theorem dX5_takeNumber_12 : decode cX5_takeNumber 12 = .ok (.putfield 45, 3) := by decide +kernel
theorem dX5_takeNumber_15 : decode cX5_takeNumber 15 = .ok (.aload_n 0, 1) := by decide +kernel
theorem dX5_takeNumber_16 : decode cX5_takeNumber 16 = .ok (.bipush 7, 2) := by decide +kernel
theorem dX5_takeNumber_18 : decode cX5_takeNumber 18 = .ok (.putfield 31, 3) := by decide +kernel
theorem dX5_takeNumber_21 : decode cX5_takeNumber 21 = .ok (.return_, 1) := by decide +kernel
theorem dX5_takes_0 : decode cX5_takes 0 = .ok (.aload_n 0, 1) := by decide +kernel
theorem dX5_takes_1 : decode cX5_takes 1 = .ok (.getfield 31, 3) := by decide +kernel
theorem dX5_takes_4 : decode cX5_takes 4 = .ok (.tableswitch 121 0 7 #[48, 54, 48, 48, 75, 84, 109, 115], 48) := by decide +kernel
theorem dX5_takes_52 : decode cX5_takes 52 = .ok (.aload_n 0, 1) := by decide +kernel
theorem dX5_takes_53 : decode cX5_takes 53 = .ok (.iload_n 1, 1) := by decide +kernel
theorem dX5_takes_54 : decode cX5_takes 54 = .ok (.invokevirtual 57, 3) := by decide +kernel
theorem dX5_takes_57 : decode cX5_takes 57 = .ok (.ireturn, 1) := by decide +kernel
theorem dX5_takes_58 : decode cX5_takes 58 = .ok (.iload_n 1, 1) := by decide +kernel
theorem dX5_takes_59 : decode cX5_takes 59 = .ok (.bipush 45, 2) := by decide +kernel
theorem dX5_takes_61 : decode cX5_takes 61 = .ok (.if_icmp .ne 12, 3) := by decide +kernel
theorem dX5_takes_64 : decode cX5_takes 64 = .ok (.aload_n 0, 1) := by decide +kernel
theorem dX5_takes_65 : decode cX5_takes 65 = .ok (.iconst (-1), 1) := by decide +kernel
theorem dX5_takes_66 : decode cX5_takes 66 = .ok (.iconst 2, 1) := by decide +kernel
theorem dX5_takes_67 : decode cX5_takes 67 = .ok (.invokevirtual 60, 3) := by decide +kernel
theorem dX5_takes_70 : decode cX5_takes 70 = .ok (.goto 8, 3) := by decide +kernel
theorem dX5_takes_73 : decode cX5_takes 73 = .ok (.aload_n 0, 1) := by decide +kernel
theorem dX5_takes_74 : decode cX5_takes 74 = .ok (.iload_n 1, 1) := by decide +kernel
theorem dX5_takes_75 : decode cX5_takes 75 = .ok (.invokevirtual 57, 3) := by decide +kernel
theorem dX5_takes_78 : decode cX5_takes 78 = .ok (.ireturn, 1) := by decide +kernel
theorem dX5_takes_79 : decode cX5_takes 79 = .ok (.aload_n 0, 1) := by decide +kernel
theorem dX5_takes_80 : decode cX5_takes 80 = .ok (.iload_n 1, 1) := by decide +kernel
theorem dX5_takes_81 : decode cX5_takes 81 = .ok (.iconst 2, 1) := by decide +kernel
theorem dX5_takes_82 : decode cX5_takes 82 = .ok (.bipush 7, 2) := by decide +kernel
theorem dX5_takes_84 : decode cX5_takes 84 = .ok (.invokevirtual 64, 3) := by decide +kernel
theorem dX5_takes_87 : decode cX5_takes 87 = .ok (.ireturn, 1) := by decide +kernel
theorem dX5_takes_88 : decode cX5_takes 88 = .ok (.iload_n 1, 1) := by decide +kernel
theorem dX5_takes_89 : decode cX5_takes 89 = .ok (.bipush 42, 2) := by decide +kernel
theorem dX5_takes_91 : decode cX5_takes 91 = .ok (.if_icmp .ne 16, 3) := by decide +kernel
theorem dX5_takes_94 : decode cX5_takes 94 = .ok (.aload_n 0, 1) := by decide +kernel
theorem dX5_takes_95 : decode cX5_takes 95 = .ok (.aload_n 0, 1) := by decide +kernel
theorem dX5_takes_96 : decode cX5_takes 96 = .ok (.getfield 48, 3) := by decide +kernel
theorem dX5_takes_99 : decode cX5_takes 99 = .ok (.bipush 6, 2) := by decide +kernel
theorem dX5_takes_101 : decode cX5_takes 101 = .ok (.invokevirtual 60, 3) := by decide +kernel
theorem dX5_takes_104 : decode cX5_takes 104 = .ok (.goto 8, 3) := by decide +kernel
theorem dX5_takes_107 : decode cX5_takes 107 = .ok (.aload_n 0, 1) := by decide +kernel
theorem dX5_takes_108 : decode cX5_takes 108 = .ok (.iload_n 1, 1) := by decide +kernel
theorem dX5_takes_109 : decode cX5_takes 109 = .ok (.invokevirtual 68, 3) := by decide +kernel
theorem dX5_takes_112 : decode cX5_takes 112 = .ok (.ireturn, 1) := by decide +kernel
theorem dX5_takes_113 : decode cX5_takes 113 = .ok (.aload_n 0, 1) := by decide +kernel
theorem dX5_takes_114 : decode cX5_takes 114 = .ok (.iload_n 1, 1) := by decide +kernel
theorem dX5_takes_115 : decode cX5_takes 115 = .ok (.invokevirtual 71, 3) := by decide +kernel
theorem dX5_takes_118 : decode cX5_takes 118 = .ok (.ireturn, 1) := by decide +kernel
theorem dX5_takes_119 : decode cX5_takes 119 = .ok (.aload_n 0, 1) := by decide +kernel
theorem dX5_takes_120 : decode cX5_takes 120 = .ok (.iload_n 1, 1) := by decide +kernel
theorem dX5_takes_121 : decode cX5_takes 121 = .ok (.invokevirtual 68, 3) := by decide +kernel
theorem dX5_takes_124 : decode cX5_takes 124 = .ok (.ireturn, 1) := by decide +kernel
theorem dX5_takes_125 : decode cX5_takes 125 = .ok (.iconst 0, 1) := by decide +kernel
theorem dX5_takes_126 : decode cX5_takes 126 = .ok (.ireturn, 1) := by decide +kernel
theorem dX5_goesOn_0 : decode cX5_goesOn 0 = .ok (.aload_n 0, 1) := by decide +kernel
theorem dX5_goesOn_1 : decode cX5_goesOn 1 = .ok (.iload_n 1, 1) := by decide +kernel
theorem dX5_goesOn_2 : decode cX5_goesOn 2 = .ok (.putfield 48, 3) := by decide +kernel
theorem dX5_goesOn_5 : decode cX5_goesOn 5 = .ok (.aload_n 0, 1) := by decide +kernel
theorem dX5_goesOn_6 : decode cX5_goesOn 6 = .ok (.iload_n 2, 1) := by decide +kernel
theorem dX5_goesOn_7 : decode cX5_goesOn 7 = .ok (.putfield 31, 3) := by decide +kernel
theorem dX5_goesOn_10 : decode cX5_goesOn 10 = .ok (.iconst 1, 1) := by decide +kernel
theorem dX5_goesOn_11 : decode cX5_goesOn 11 = .ok (.ireturn, 1) := by decide +kernel
theorem dX5_beginsForm_0 : decode cX5_beginsForm 0 = .ok (.aload_n 0, 1) := by decide +kernel
theorem dX5_beginsForm_1 : decode cX5_beginsForm 1 = .ok (.getfield 42, 3) := by decide +kernel
theorem dX5_beginsForm_4 : decode cX5_beginsForm 4 = .ok (.iconst 5, 1) := by decide +kernel
theorem dX5_beginsForm_5 : decode cX5_beginsForm 5 = .ok (.if_icmp .lt 5, 3) := by decide +kernel
theorem dX5_beginsForm_8 : decode cX5_beginsForm 8 = .ok (.iconst 0, 1) := by decide +kernel
theorem dX5_beginsForm_9 : decode cX5_beginsForm 9 = .ok (.ireturn, 1) := by decide +kernel
theorem dX5_beginsForm_10 : decode cX5_beginsForm 10 = .ok (.iload_n 1, 1) := by decide +kernel
theorem dX5_beginsForm_11 : decode cX5_beginsForm 11 = .ok (.bipush 47, 2) := by decide +kernel
theorem dX5_beginsForm_13 : decode cX5_beginsForm 13 = .ok (.if_icmp .ne 15, 3) := by decide +kernel
theorem dX5_beginsForm_16 : decode cX5_beginsForm 16 = .ok (.aload_n 0, 1) := by decide +kernel
theorem dX5_beginsForm_17 : decode cX5_beginsForm 17 = .ok (.aload_n 0, 1) := by decide +kernel
theorem dX5_beginsForm_18 : decode cX5_beginsForm 18 = .ok (.getfield 48, 3) := by decide +kernel
theorem dX5_beginsForm_21 : decode cX5_beginsForm 21 = .ok (.iconst 4, 1) := by decide +kernel
theorem dX5_beginsForm_22 : decode cX5_beginsForm 22 = .ok (.invokevirtual 60, 3) := by decide +kernel
theorem dX5_beginsForm_25 : decode cX5_beginsForm 25 = .ok (.goto 10, 3) := by decide +kernel
theorem dX5_beginsForm_28 : decode cX5_beginsForm 28 = .ok (.aload_n 0, 1) := by decide +kernel
theorem dX5_beginsForm_29 : decode cX5_beginsForm 29 = .ok (.iload_n 1, 1) := by decide +kernel
theorem dX5_beginsForm_30 : decode cX5_beginsForm 30 = .ok (.iconst 0, 1) := by decide +kernel
theorem dX5_beginsForm_31 : decode cX5_beginsForm 31 = .ok (.iconst 5, 1) := by decide +kernel
theorem dX5_beginsForm_32 : decode cX5_beginsForm 32 = .ok (.invokevirtual 64, 3) := by decide +kernel
theorem dX5_beginsForm_35 : decode cX5_beginsForm 35 = .ok (.ireturn, 1) := by decide +kernel
theorem dX5_takesLetter_0 : decode cX5_takesLetter 0 = .ok (.iload_n 1, 1) := by decide +kernel
theorem dX5_takesLetter_1 : decode cX5_takesLetter 1 = .ok (.bipush 97, 2) := by decide +kernel
theorem dX5_takesLetter_3 : decode cX5_takesLetter 3 = .ok (.if_icmp .lt 17, 3) := by decide +kernel
theorem dX5_takesLetter_6 : decode cX5_takesLetter 6 = .ok (.iload_n 1, 1) := by decide +kernel
theorem dX5_takesLetter_7 : decode cX5_takesLetter 7 = .ok (.bipush 122, 2) := by decide +kernel
theorem dX5_takesLetter_9 : decode cX5_takesLetter 9 = .ok (.if_icmp .gt 11, 3) := by decide +kernel
theorem dX5_takesLetter_12 : decode cX5_takesLetter 12 = .ok (.aload_n 0, 1) := by decide +kernel
theorem dX5_takesLetter_13 : decode cX5_takesLetter 13 = .ok (.getfield 42, 3) := by decide +kernel
theorem dX5_takesLetter_16 : decode cX5_takesLetter 16 = .ok (.iconst 5, 1) := by decide +kernel
theorem dX5_takesLetter_17 : decode cX5_takesLetter 17 = .ok (.if_icmp .lt 5, 3) := by decide +kernel
theorem dX5_takesLetter_20 : decode cX5_takesLetter 20 = .ok (.iconst 0, 1) := by decide +kernel
theorem dX5_takesLetter_21 : decode cX5_takesLetter 21 = .ok (.ireturn, 1) := by decide +kernel
theorem dX5_takesLetter_22 : decode cX5_takesLetter 22 = .ok (.iconst 1, 1) := by decide +kernel
theorem dX5_takesLetter_23 : decode cX5_takesLetter 23 = .ok (.iload_n 1, 1) := by decide +kernel
theorem dX5_takesLetter_24 : decode cX5_takesLetter 24 = .ok (.bipush 97, 2) := by decide +kernel
theorem dX5_takesLetter_26 : decode cX5_takesLetter 26 = .ok (.isub, 1) := by decide +kernel
theorem dX5_takesLetter_27 : decode cX5_takesLetter 27 = .ok (.ishl, 1) := by decide +kernel
theorem dX5_takesLetter_28 : decode cX5_takesLetter 28 = .ok (.istore 4, 2) := by decide +kernel
theorem dX5_takesLetter_30 : decode cX5_takesLetter 30 = .ok (.aload_n 0, 1) := by decide +kernel
theorem dX5_takesLetter_31 : decode cX5_takesLetter 31 = .ok (.getfield 54, 3) := by decide +kernel
theorem dX5_takesLetter_34 : decode cX5_takesLetter 34 = .ok (.iload 4, 2) := by decide +kernel
theorem dX5_takesLetter_36 : decode cX5_takesLetter 36 = .ok (.iand, 1) := by decide +kernel
theorem dX5_takesLetter_37 : decode cX5_takesLetter 37 = .ok (.ifCond .eq 5, 3) := by decide +kernel
theorem dX5_takesLetter_40 : decode cX5_takesLetter 40 = .ok (.iconst 0, 1) := by decide +kernel
theorem dX5_takesLetter_41 : decode cX5_takesLetter 41 = .ok (.ireturn, 1) := by decide +kernel
theorem dX5_takesLetter_42 : decode cX5_takesLetter 42 = .ok (.aload_n 0, 1) := by decide +kernel
theorem dX5_takesLetter_43 : decode cX5_takesLetter 43 = .ok (.dup, 1) := by decide +kernel
theorem dX5_takesLetter_44 : decode cX5_takesLetter 44 = .ok (.getfield 54, 3) := by decide +kernel
theorem dX5_takesLetter_47 : decode cX5_takesLetter 47 = .ok (.iload 4, 2) := by decide +kernel
theorem dX5_takesLetter_49 : decode cX5_takesLetter 49 = .ok (.ior, 1) := by decide +kernel
theorem dX5_takesLetter_50 : decode cX5_takesLetter 50 = .ok (.putfield 54, 3) := by decide +kernel
theorem dX5_takesLetter_53 : decode cX5_takesLetter 53 = .ok (.aload_n 0, 1) := by decide +kernel
theorem dX5_takesLetter_54 : decode cX5_takesLetter 54 = .ok (.iload_n 1, 1) := by decide +kernel
theorem dX5_takesLetter_55 : decode cX5_takesLetter 55 = .ok (.putfield 51, 3) := by decide +kernel
theorem dX5_takesLetter_58 : decode cX5_takesLetter 58 = .ok (.aload_n 0, 1) := by decide +kernel
theorem dX5_takesLetter_59 : decode cX5_takesLetter 59 = .ok (.getfield 9, 3) := by decide +kernel
theorem dX5_takesLetter_62 : decode cX5_takesLetter 62 = .ok (.aload_n 0, 1) := by decide +kernel
theorem dX5_takesLetter_63 : decode cX5_takesLetter 63 = .ok (.getfield 42, 3) := by decide +kernel
theorem dX5_takesLetter_66 : decode cX5_takesLetter 66 = .ok (.iload_n 2, 1) := by decide +kernel
theorem dX5_takesLetter_67 : decode cX5_takesLetter 67 = .ok (.iastore, 1) := by decide +kernel
theorem dX5_takesLetter_68 : decode cX5_takesLetter 68 = .ok (.aload_n 0, 1) := by decide +kernel
theorem dX5_takesLetter_69 : decode cX5_takesLetter 69 = .ok (.getfield 15, 3) := by decide +kernel
theorem dX5_takesLetter_72 : decode cX5_takesLetter 72 = .ok (.aload_n 0, 1) := by decide +kernel
theorem dX5_takesLetter_73 : decode cX5_takesLetter 73 = .ok (.getfield 42, 3) := by decide +kernel
theorem dX5_takesLetter_76 : decode cX5_takesLetter 76 = .ok (.aload_n 0, 1) := by decide +kernel
theorem dX5_takesLetter_77 : decode cX5_takesLetter 77 = .ok (.getfield 48, 3) := by decide +kernel
theorem dX5_takesLetter_80 : decode cX5_takesLetter 80 = .ok (.iastore, 1) := by decide +kernel
theorem dX5_takesLetter_81 : decode cX5_takesLetter 81 = .ok (.aload_n 0, 1) := by decide +kernel
theorem dX5_takesLetter_82 : decode cX5_takesLetter 82 = .ok (.dup, 1) := by decide +kernel
theorem dX5_takesLetter_83 : decode cX5_takesLetter 83 = .ok (.getfield 42, 3) := by decide +kernel
theorem dX5_takesLetter_86 : decode cX5_takesLetter 86 = .ok (.iconst 1, 1) := by decide +kernel
theorem dX5_takesLetter_87 : decode cX5_takesLetter 87 = .ok (.iadd, 1) := by decide +kernel
theorem dX5_takesLetter_88 : decode cX5_takesLetter 88 = .ok (.putfield 42, 3) := by decide +kernel
theorem dX5_takesLetter_91 : decode cX5_takesLetter 91 = .ok (.aload_n 0, 1) := by decide +kernel
theorem dX5_takesLetter_92 : decode cX5_takesLetter 92 = .ok (.aload_n 0, 1) := by decide +kernel
theorem dX5_takesLetter_93 : decode cX5_takesLetter 93 = .ok (.getfield 48, 3) := by decide +kernel
theorem dX5_takesLetter_96 : decode cX5_takesLetter 96 = .ok (.iload_n 3, 1) := by decide +kernel
theorem dX5_takesLetter_97 : decode cX5_takesLetter 97 = .ok (.invokevirtual 60, 3) := by decide +kernel
theorem dX5_takesLetter_100 : decode cX5_takesLetter 100 = .ok (.ireturn, 1) := by decide +kernel
theorem dX5_squares_0 : decode cX5_squares 0 = .ok (.iload_n 1, 1) := by decide +kernel
theorem dX5_squares_1 : decode cX5_squares 1 = .ok (.aload_n 0, 1) := by decide +kernel
theorem dX5_squares_2 : decode cX5_squares 2 = .ok (.getfield 51, 3) := by decide +kernel
theorem dX5_squares_5 : decode cX5_squares 5 = .ok (.if_icmp .ne 19, 3) := by decide +kernel
theorem dX5_squares_8 : decode cX5_squares 8 = .ok (.aload_n 0, 1) := by decide +kernel
theorem dX5_squares_9 : decode cX5_squares 9 = .ok (.getfield 42, 3) := by decide +kernel
theorem dX5_squares_12 : decode cX5_squares 12 = .ok (.iconst 1, 1) := by decide +kernel
theorem dX5_squares_13 : decode cX5_squares 13 = .ok (.if_icmp .lt 11, 3) := by decide +kernel
theorem dX5_squares_16 : decode cX5_squares 16 = .ok (.aload_n 0, 1) := by decide +kernel
theorem dX5_squares_17 : decode cX5_squares 17 = .ok (.getfield 42, 3) := by decide +kernel
theorem dX5_squares_20 : decode cX5_squares 20 = .ok (.iconst 5, 1) := by decide +kernel
theorem dX5_squares_21 : decode cX5_squares 21 = .ok (.if_icmp .le 5, 3) := by decide +kernel
theorem dX5_squares_24 : decode cX5_squares 24 = .ok (.iconst 0, 1) := by decide +kernel
theorem dX5_squares_25 : decode cX5_squares 25 = .ok (.ireturn, 1) := by decide +kernel
theorem dX5_squares_26 : decode cX5_squares 26 = .ok (.aload_n 0, 1) := by decide +kernel
theorem dX5_squares_27 : decode cX5_squares 27 = .ok (.getfield 9, 3) := by decide +kernel
theorem dX5_squares_30 : decode cX5_squares 30 = .ok (.aload_n 0, 1) := by decide +kernel
theorem dX5_squares_31 : decode cX5_squares 31 = .ok (.getfield 42, 3) := by decide +kernel
theorem dX5_squares_34 : decode cX5_squares 34 = .ok (.iconst 1, 1) := by decide +kernel
theorem dX5_squares_35 : decode cX5_squares 35 = .ok (.isub, 1) := by decide +kernel
theorem dX5_squares_36 : decode cX5_squares 36 = .ok (.iconst 1, 1) := by decide +kernel
theorem dX5_squares_37 : decode cX5_squares 37 = .ok (.iastore, 1) := by decide +kernel
theorem dX5_squares_38 : decode cX5_squares 38 = .ok (.aload_n 0, 1) := by decide +kernel
theorem dX5_squares_39 : decode cX5_squares 39 = .ok (.aload_n 0, 1) := by decide +kernel
theorem dX5_squares_40 : decode cX5_squares 40 = .ok (.getfield 48, 3) := by decide +kernel
theorem dX5_squares_43 : decode cX5_squares 43 = .ok (.bipush 7, 2) := by decide +kernel
theorem dX5_squares_45 : decode cX5_squares 45 = .ok (.invokevirtual 60, 3) := by decide +kernel
theorem dX5_squares_48 : decode cX5_squares 48 = .ok (.ireturn, 1) := by decide +kernel
theorem dX5_followsPart_0 : decode cX5_followsPart 0 = .ok (.aload_n 0, 1) := by decide +kernel
theorem dX5_followsPart_1 : decode cX5_followsPart 1 = .ok (.getfield 42, 3) := by decide +kernel
theorem dX5_followsPart_4 : decode cX5_followsPart 4 = .ok (.iconst 1, 1) := by decide +kernel
theorem dX5_followsPart_5 : decode cX5_followsPart 5 = .ok (.if_icmp .ne 24, 3) := by decide +kernel
theorem dX5_followsPart_8 : decode cX5_followsPart 8 = .ok (.iload_n 1, 1) := by decide +kernel
theorem dX5_followsPart_9 : decode cX5_followsPart 9 = .ok (.bipush 61, 2) := by decide +kernel
theorem dX5_followsPart_11 : decode cX5_followsPart 11 = .ok (.if_icmp .ne 16, 3) := by decide +kernel
theorem dX5_followsPart_14 : decode cX5_followsPart 14 = .ok (.aload_n 0, 1) := by decide +kernel
theorem dX5_followsPart_15 : decode cX5_followsPart 15 = .ok (.iconst 1, 1) := by decide +kernel
theorem dX5_followsPart_16 : decode cX5_followsPart 16 = .ok (.iconst 1, 1) := by decide +kernel
theorem dX5_followsPart_17 : decode cX5_followsPart 17 = .ok (.invokevirtual 60, 3) := by decide +kernel
theorem dX5_followsPart_20 : decode cX5_followsPart 20 = .ok (.ifCond .eq 7, 3) := by decide +kernel
theorem dX5_followsPart_23 : decode cX5_followsPart 23 = .ok (.iconst 1, 1) := by decide +kernel
theorem dX5_followsPart_24 : decode cX5_followsPart 24 = .ok (.goto 4, 3) := by decide +kernel
theorem dX5_followsPart_27 : decode cX5_followsPart 27 = .ok (.iconst 0, 1) := by decide +kernel
theorem dX5_followsPart_28 : decode cX5_followsPart 28 = .ok (.ireturn, 1) := by decide +kernel
theorem dX5_followsPart_29 : decode cX5_followsPart 29 = .ok (.iload_n 1, 1) := by decide +kernel
theorem dX5_followsPart_30 : decode cX5_followsPart 30 = .ok (.bipush 43, 2) := by decide +kernel
theorem dX5_followsPart_32 : decode cX5_followsPart 32 = .ok (.if_icmp .ne 10, 3) := by decide +kernel
theorem dX5_followsPart_35 : decode cX5_followsPart 35 = .ok (.aload_n 0, 1) := by decide +kernel
theorem dX5_followsPart_36 : decode cX5_followsPart 36 = .ok (.iconst 1, 1) := by decide +kernel
theorem dX5_followsPart_37 : decode cX5_followsPart 37 = .ok (.iconst 3, 1) := by decide +kernel
theorem dX5_followsPart_38 : decode cX5_followsPart 38 = .ok (.invokevirtual 60, 3) := by decide +kernel
theorem dX5_followsPart_41 : decode cX5_followsPart 41 = .ok (.ireturn, 1) := by decide +kernel
theorem dX5_followsPart_42 : decode cX5_followsPart 42 = .ok (.iload_n 1, 1) := by decide +kernel
theorem dX5_followsPart_43 : decode cX5_followsPart 43 = .ok (.bipush 45, 2) := by decide +kernel
theorem dX5_followsPart_45 : decode cX5_followsPart 45 = .ok (.if_icmp .ne 10, 3) := by decide +kernel
theorem dX5_followsPart_48 : decode cX5_followsPart 48 = .ok (.aload_n 0, 1) := by decide +kernel
theorem dX5_followsPart_49 : decode cX5_followsPart 49 = .ok (.iconst (-1), 1) := by decide +kernel
theorem dX5_followsPart_50 : decode cX5_followsPart 50 = .ok (.iconst 3, 1) := by decide +kernel
theorem dX5_followsPart_51 : decode cX5_followsPart 51 = .ok (.invokevirtual 60, 3) := by decide +kernel
theorem dX5_followsPart_54 : decode cX5_followsPart 54 = .ok (.ireturn, 1) := by decide +kernel
theorem dX5_followsPart_55 : decode cX5_followsPart 55 = .ok (.iload_n 1, 1) := by decide +kernel
theorem dX5_followsPart_56 : decode cX5_followsPart 56 = .ok (.bipush 59, 2) := by decide +kernel
theorem dX5_followsPart_58 : decode cX5_followsPart 58 = .ok (.if_icmp .ne 25, 3) := by decide +kernel
theorem dX5_followsPart_61 : decode cX5_followsPart 61 = .ok (.aload_n 0, 1) := by decide +kernel
theorem dX5_followsPart_62 : decode cX5_followsPart 62 = .ok (.getfield 42, 3) := by decide +kernel
theorem dX5_followsPart_65 : decode cX5_followsPart 65 = .ok (.iconst 3, 1) := by decide +kernel
theorem dX5_followsPart_66 : decode cX5_followsPart 66 = .ok (.if_icmp .lt 17, 3) := by decide +kernel
theorem dX5_followsPart_69 : decode cX5_followsPart 69 = .ok (.aload_n 0, 1) := by decide +kernel
theorem dX5_followsPart_70 : decode cX5_followsPart 70 = .ok (.iconst 1, 1) := by decide +kernel
theorem dX5_followsPart_71 : decode cX5_followsPart 71 = .ok (.bipush 8, 2) := by decide +kernel
theorem dX5_followsPart_73 : decode cX5_followsPart 73 = .ok (.invokevirtual 60, 3) := by decide +kernel
theorem dX5_followsPart_76 : decode cX5_followsPart 76 = .ok (.ifCond .eq 7, 3) := by decide +kernel
theorem dX5_followsPart_79 : decode cX5_followsPart 79 = .ok (.iconst 1, 1) := by decide +kernel
theorem dX5_followsPart_80 : decode cX5_followsPart 80 = .ok (.goto 4, 3) := by decide +kernel
theorem dX5_followsPart_83 : decode cX5_followsPart 83 = .ok (.iconst 0, 1) := by decide +kernel
theorem dX5_followsPart_84 : decode cX5_followsPart 84 = .ok (.ireturn, 1) := by decide +kernel
theorem dX6_init_0 : decode cX6_init 0 = .ok (.aload_n 0, 1) := by decide +kernel
theorem dX6_init_1 : decode cX6_init 1 = .ok (.invokespecial 3, 3) := by decide +kernel
theorem dX6_init_4 : decode cX6_init 4 = .ok (.aload_n 0, 1) := by decide +kernel
theorem dX6_init_5 : decode cX6_init 5 = .ok (.bipush 60, 2) := by decide +kernel
theorem dX6_init_7 : decode cX6_init 7 = .ok (.newarray .int, 2) := by decide +kernel
theorem dX6_init_9 : decode cX6_init 9 = .ok (.putfield 9, 3) := by decide +kernel
theorem dX6_init_12 : decode cX6_init 12 = .ok (.aload_n 0, 1) := by decide +kernel
theorem dX6_init_13 : decode cX6_init 13 = .ok (.bipush 60, 2) := by decide +kernel
theorem dX6_init_15 : decode cX6_init 15 = .ok (.newarray .int, 2) := by decide +kernel
theorem dX6_init_17 : decode cX6_init 17 = .ok (.putfield 15, 3) := by decide +kernel
theorem dX6_init_20 : decode cX6_init 20 = .ok (.aload_n 0, 1) := by decide +kernel
theorem dX6_init_21 : decode cX6_init 21 = .ok (.bipush 60, 2) := by decide +kernel
theorem dX6_init_23 : decode cX6_init 23 = .ok (.newarray .int, 2) := by decide +kernel
theorem dX6_init_25 : decode cX6_init 25 = .ok (.putfield 18, 3) := by decide +kernel
theorem dX6_init_28 : decode cX6_init 28 = .ok (.aload_n 0, 1) := by decide +kernel
theorem dX6_init_29 : decode cX6_init 29 = .ok (.bipush 60, 2) := by decide +kernel
theorem dX6_init_31 : decode cX6_init 31 = .ok (.newarray .int, 2) := by decide +kernel
theorem dX6_init_33 : decode cX6_init 33 = .ok (.putfield 21, 3) := by decide +kernel
theorem dX6_init_36 : decode cX6_init 36 = .ok (.aload_n 0, 1) := by decide +kernel
theorem dX6_init_37 : decode cX6_init 37 = .ok (.bipush 60, 2) := by decide +kernel
theorem dX6_init_39 : decode cX6_init 39 = .ok (.newarray .int, 2) := by decide +kernel
theorem dX6_init_41 : decode cX6_init 41 = .ok (.putfield 24, 3) := by decide +kernel
theorem dX6_init_44 : decode cX6_init 44 = .ok (.aload_n 0, 1) := by decide +kernel
theorem dX6_init_45 : decode cX6_init 45 = .ok (.bipush 60, 2) := by decide +kernel
theorem dX6_init_47 : decode cX6_init 47 = .ok (.newarray .int, 2) := by decide +kernel
theorem dX6_init_49 : decode cX6_init 49 = .ok (.putfield 27, 3) := by decide +kernel
theorem dX6_init_52 : decode cX6_init 52 = .ok (.aload_n 0, 1) := by decide +kernel
theorem dX6_init_53 : decode cX6_init 53 = .ok (.bipush 19, 2) := by decide +kernel
theorem dX6_init_55 : decode cX6_init 55 = .ok (.newarray .int, 2) := by decide +kernel
theorem dX6_init_57 : decode cX6_init 57 = .ok (.putfield 30, 3) := by decide +kernel
theorem dX6_init_60 : decode cX6_init 60 = .ok (.return_, 1) := by decide +kernel
theorem dX6_isFull_0 : decode cX6_isFull 0 = .ok (.aload_n 0, 1) := by decide +kernel
theorem dX6_isFull_1 : decode cX6_isFull 1 = .ok (.getfield 33, 3) := by decide +kernel
theorem dX6_isFull_4 : decode cX6_isFull 4 = .ok (.bipush 60, 2) := by decide +kernel
theorem dX6_isFull_6 : decode cX6_isFull 6 = .ok (.if_icmp .lt 7, 3) := by decide +kernel
theorem dX6_isFull_9 : decode cX6_isFull 9 = .ok (.iconst 1, 1) := by decide +kernel
theorem dX6_isFull_10 : decode cX6_isFull 10 = .ok (.goto 4, 3) := by decide +kernel
theorem dX6_isFull_13 : decode cX6_isFull 13 = .ok (.iconst 0, 1) := by decide +kernel
theorem dX6_isFull_14 : decode cX6_isFull 14 = .ok (.ireturn, 1) := by decide +kernel
theorem dX6_has_0 : decode cX6_has 0 = .ok (.iload_n 1, 1) := by decide +kernel
theorem dX6_has_1 : decode cX6_has 1 = .ok (.ifCond .lt 15, 3) := by decide +kernel
theorem dX6_has_4 : decode cX6_has 4 = .ok (.iload_n 1, 1) := by decide +kernel
theorem dX6_has_5 : decode cX6_has 5 = .ok (.aload_n 0, 1) := by decide +kernel
theorem dX6_has_6 : decode cX6_has 6 = .ok (.getfield 33, 3) := by decide +kernel
theorem dX6_has_9 : decode cX6_has 9 = .ok (.if_icmp .ge 7, 3) := by decide +kernel
theorem dX6_has_12 : decode cX6_has 12 = .ok (.iconst 1, 1) := by decide +kernel
theorem dX6_has_13 : decode cX6_has 13 = .ok (.goto 4, 3) := by decide +kernel
theorem dX6_has_16 : decode cX6_has 16 = .ok (.iconst 0, 1) := by decide +kernel
theorem dX6_has_17 : decode cX6_has 17 = .ok (.ireturn, 1) := by decide +kernel
theorem dX6_forgetDues_0 : decode cX6_forgetDues 0 = .ok (.aload_n 0, 1) := by decide +kernel
theorem dX6_forgetDues_1 : decode cX6_forgetDues 1 = .ok (.iconst 0, 1) := by decide +kernel
theorem dX6_forgetDues_2 : decode cX6_forgetDues 2 = .ok (.putfield 37, 3) := by decide +kernel
theorem dX6_forgetDues_5 : decode cX6_forgetDues 5 = .ok (.return_, 1) := by decide +kernel
theorem dX6_add_0 : decode cX6_add 0 = .ok (.aload_n 0, 1) := by decide +kernel
theorem dX6_add_1 : decode cX6_add 1 = .ok (.invokevirtual 40, 3) := by decide +kernel
theorem dX6_add_4 : decode cX6_add 4 = .ok (.ifCond .eq 4, 3) := by decide +kernel
theorem dX6_add_7 : decode cX6_add 7 = .ok (.return_, 1) := by decide +kernel
theorem dX6_add_8 : decode cX6_add 8 = .ok (.aload_n 0, 1) := by decide +kernel
theorem dX6_add_9 : decode cX6_add 9 = .ok (.getfield 9, 3) := by decide +kernel
theorem dX6_add_12 : decode cX6_add 12 = .ok (.aload_n 0, 1) := by decide +kernel
theorem dX6_add_13 : decode cX6_add 13 = .ok (.getfield 33, 3) := by decide +kernel
theorem dX6_add_16 : decode cX6_add 16 = .ok (.iload_n 1, 1) := by decide +kernel
theorem dX6_add_17 : decode cX6_add 17 = .ok (.iastore, 1) := by decide +kernel
theorem dX6_add_18 : decode cX6_add 18 = .ok (.aload_n 0, 1) := by decide +kernel
theorem dX6_add_19 : decode cX6_add 19 = .ok (.getfield 15, 3) := by decide +kernel
theorem dX6_add_22 : decode cX6_add 22 = .ok (.aload_n 0, 1) := by decide +kernel
theorem dX6_add_23 : decode cX6_add 23 = .ok (.getfield 33, 3) := by decide +kernel
theorem dX6_add_26 : decode cX6_add 26 = .ok (.iload_n 2, 1) := by decide +kernel
theorem dX6_add_27 : decode cX6_add 27 = .ok (.iastore, 1) := by decide +kernel
theorem dX6_add_28 : decode cX6_add 28 = .ok (.aload_n 0, 1) := by decide +kernel
theorem dX6_add_29 : decode cX6_add 29 = .ok (.getfield 18, 3) := by decide +kernel
theorem dX6_add_32 : decode cX6_add 32 = .ok (.aload_n 0, 1) := by decide +kernel
theorem dX6_add_33 : decode cX6_add 33 = .ok (.getfield 33, 3) := by decide +kernel
theorem dX6_add_36 : decode cX6_add 36 = .ok (.iload_n 3, 1) := by decide +kernel
theorem dX6_add_37 : decode cX6_add 37 = .ok (.iastore, 1) := by decide +kernel
theorem dX6_add_38 : decode cX6_add 38 = .ok (.aload_n 0, 1) := by decide +kernel
theorem dX6_add_39 : decode cX6_add 39 = .ok (.getfield 21, 3) := by decide +kernel
theorem dX6_add_42 : decode cX6_add 42 = .ok (.aload_n 0, 1) := by decide +kernel
theorem dX6_add_43 : decode cX6_add 43 = .ok (.getfield 33, 3) := by decide +kernel
theorem dX6_add_46 : decode cX6_add 46 = .ok (.iload 4, 2) := by decide +kernel
theorem dX6_add_48 : decode cX6_add 48 = .ok (.iastore, 1) := by decide +kernel
theorem dX6_add_49 : decode cX6_add 49 = .ok (.aload_n 0, 1) := by decide +kernel
theorem dX6_add_50 : decode cX6_add 50 = .ok (.getfield 24, 3) := by decide +kernel
theorem dX6_add_53 : decode cX6_add 53 = .ok (.aload_n 0, 1) := by decide +kernel
theorem dX6_add_54 : decode cX6_add 54 = .ok (.getfield 33, 3) := by decide +kernel
theorem dX6_add_57 : decode cX6_add 57 = .ok (.iload 5, 2) := by decide +kernel
theorem dX6_add_59 : decode cX6_add 59 = .ok (.iastore, 1) := by decide +kernel
theorem dX6_add_60 : decode cX6_add 60 = .ok (.aload_n 0, 1) := by decide +kernel
theorem dX6_add_61 : decode cX6_add 61 = .ok (.dup, 1) := by decide +kernel
theorem dX6_add_62 : decode cX6_add 62 = .ok (.getfield 33, 3) := by decide +kernel
theorem dX6_add_65 : decode cX6_add 65 = .ok (.iconst 1, 1) := by decide +kernel
theorem dX6_add_66 : decode cX6_add 66 = .ok (.iadd, 1) := by decide +kernel
theorem dX6_add_67 : decode cX6_add 67 = .ok (.putfield 33, 3) := by decide +kernel
theorem dX6_add_70 : decode cX6_add 70 = .ok (.return_, 1) := by decide +kernel
theorem dX6_habitOf_0 : decode cX6_habitOf 0 = .ok (.aload_n 0, 1) := by decide +kernel
theorem dX6_habitOf_1 : decode cX6_habitOf 1 = .ok (.getfield 30, 3) := by decide +kernel
theorem dX6_habitOf_4 : decode cX6_habitOf 4 = .ok (.iconst 0, 1) := by decide +kernel
theorem dX6_habitOf_5 : decode cX6_habitOf 5 = .ok (.invokestatic 44, 3) := by decide +kernel
theorem dX6_habitOf_8 : decode cX6_habitOf 8 = .ok (.iconst 0, 1) := by decide +kernel
theorem dX6_habitOf_9 : decode cX6_habitOf 9 = .ok (.istore_n 2, 1) := by decide +kernel
theorem dX6_habitOf_10 : decode cX6_habitOf 10 = .ok (.iload_n 2, 1) := by decide +kernel
theorem dX6_habitOf_11 : decode cX6_habitOf 11 = .ok (.aload_n 0, 1) := by decide +kernel
theorem dX6_habitOf_12 : decode cX6_habitOf 12 = .ok (.getfield 33, 3) := by decide +kernel
theorem dX6_habitOf_15 : decode cX6_habitOf 15 = .ok (.if_icmp .ge 65, 3) := by decide +kernel
theorem dX6_habitOf_18 : decode cX6_habitOf 18 = .ok (.aload_n 0, 1) := by decide +kernel
theorem dX6_habitOf_19 : decode cX6_habitOf 19 = .ok (.getfield 21, 3) := by decide +kernel
theorem dX6_habitOf_22 : decode cX6_habitOf 22 = .ok (.iload_n 2, 1) := by decide +kernel
theorem dX6_habitOf_23 : decode cX6_habitOf 23 = .ok (.iaload, 1) := by decide +kernel
theorem dX6_habitOf_24 : decode cX6_habitOf 24 = .ok (.aload_n 0, 1) := by decide +kernel
theorem dX6_habitOf_25 : decode cX6_habitOf 25 = .ok (.getfield 27, 3) := by decide +kernel
theorem dX6_habitOf_28 : decode cX6_habitOf 28 = .ok (.iload_n 2, 1) := by decide +kernel
theorem dX6_habitOf_29 : decode cX6_habitOf 29 = .ok (.iaload, 1) := by decide +kernel
theorem dX6_habitOf_30 : decode cX6_habitOf 30 = .ok (.isub, 1) := by decide +kernel
theorem dX6_habitOf_31 : decode cX6_habitOf 31 = .ok (.istore_n 3, 1) := by decide +kernel
theorem dX6_habitOf_32 : decode cX6_habitOf 32 = .ok (.aload_n 0, 1) := by decide +kernel
theorem dX6_habitOf_33 : decode cX6_habitOf 33 = .ok (.getfield 9, 3) := by decide +kernel
theorem dX6_habitOf_36 : decode cX6_habitOf 36 = .ok (.iload_n 2, 1) := by decide +kernel
theorem dX6_habitOf_37 : decode cX6_habitOf 37 = .ok (.iaload, 1) := by decide +kernel
theorem dX6_habitOf_38 : decode cX6_habitOf 38 = .ok (.iload_n 1, 1) := by decide +kernel
theorem dX6_habitOf_39 : decode cX6_habitOf 39 = .ok (.if_icmp .ne 35, 3) := by decide +kernel
theorem dX6_habitOf_42 : decode cX6_habitOf 42 = .ok (.aload_n 0, 1) := by decide +kernel
theorem dX6_habitOf_43 : decode cX6_habitOf 43 = .ok (.getfield 27, 3) := by decide +kernel
theorem dX6_habitOf_46 : decode cX6_habitOf 46 = .ok (.iload_n 2, 1) := by decide +kernel
theorem dX6_habitOf_47 : decode cX6_habitOf 47 = .ok (.iaload, 1) := by decide +kernel
theorem dX6_habitOf_48 : decode cX6_habitOf 48 = .ok (.iconst (-1), 1) := by decide +kernel
theorem dX6_habitOf_49 : decode cX6_habitOf 49 = .ok (.if_icmp .eq 25, 3) := by decide +kernel
theorem dX6_habitOf_52 : decode cX6_habitOf 52 = .ok (.iload_n 3, 1) := by decide +kernel
theorem dX6_habitOf_53 : decode cX6_habitOf 53 = .ok (.invokestatic 50, 3) := by decide +kernel
theorem dX6_habitOf_56 : decode cX6_habitOf 56 = .ok (.bipush 9, 2) := by decide +kernel
theorem dX6_habitOf_58 : decode cX6_habitOf 58 = .ok (.if_icmp .gt 16, 3) := by decide +kernel
theorem dX6_habitOf_61 : decode cX6_habitOf 61 = .ok (.aload_n 0, 1) := by decide +kernel
theorem dX6_habitOf_62 : decode cX6_habitOf 62 = .ok (.getfield 30, 3) := by decide +kernel
theorem dX6_habitOf_65 : decode cX6_habitOf 65 = .ok (.bipush 9, 2) := by decide +kernel
theorem dX6_habitOf_67 : decode cX6_habitOf 67 = .ok (.iload_n 3, 1) := by decide +kernel
theorem dX6_habitOf_68 : decode cX6_habitOf 68 = .ok (.iadd, 1) := by decide +kernel
theorem dX6_habitOf_69 : decode cX6_habitOf 69 = .ok (.dup2, 1) := by decide +kernel
theorem dX6_habitOf_70 : decode cX6_habitOf 70 = .ok (.iaload, 1) := by decide +kernel
theorem dX6_habitOf_71 : decode cX6_habitOf 71 = .ok (.iconst 1, 1) := by decide +kernel
theorem dX6_habitOf_72 : decode cX6_habitOf 72 = .ok (.iadd, 1) := by decide +kernel
theorem dX6_habitOf_73 : decode cX6_habitOf 73 = .ok (.iastore, 1) := by decide +kernel
theorem dX6_habitOf_74 : decode cX6_habitOf 74 = .ok (.iinc 2 1, 3) := by decide +kernel
theorem dX6_habitOf_77 : decode cX6_habitOf 77 = .ok (.goto (-67), 3) := by decide +kernel
theorem dX6_habitOf_80 : decode cX6_habitOf 80 = .ok (.iconst 0, 1) := by decide +kernel
theorem dX6_habitOf_81 : decode cX6_habitOf 81 = .ok (.istore_n 2, 1) := by decide +kernel
theorem dX6_habitOf_82 : decode cX6_habitOf 82 = .ok (.iconst 1, 1) := by decide +kernel
theorem dX6_habitOf_83 : decode cX6_habitOf 83 = .ok (.istore_n 3, 1) := by decide +kernel
theorem dX6_habitOf_84 : decode cX6_habitOf 84 = .ok (.iload_n 3, 1) := by decide +kernel
theorem dX6_habitOf_85 : decode cX6_habitOf 85 = .ok (.bipush 9, 2) := by decide +kernel
theorem dX6_habitOf_87 : decode cX6_habitOf 87 = .ok (.if_icmp .gt 56, 3) := by decide +kernel
theorem dX6_habitOf_90 : decode cX6_habitOf 90 = .ok (.aload_n 0, 1) := by decide +kernel
theorem dX6_habitOf_91 : decode cX6_habitOf 91 = .ok (.getfield 30, 3) := by decide +kernel
theorem dX6_habitOf_94 : decode cX6_habitOf 94 = .ok (.bipush 9, 2) := by decide +kernel
theorem dX6_habitOf_96 : decode cX6_habitOf 96 = .ok (.iload_n 3, 1) := by decide +kernel
theorem dX6_habitOf_97 : decode cX6_habitOf 97 = .ok (.isub, 1) := by decide +kernel
theorem dX6_habitOf_98 : decode cX6_habitOf 98 = .ok (.iaload, 1) := by decide +kernel
theorem dX6_habitOf_99 : decode cX6_habitOf 99 = .ok (.aload_n 0, 1) := by decide +kernel
theorem dX6_habitOf_100 : decode cX6_habitOf 100 = .ok (.getfield 30, 3) := by decide +kernel
theorem dX6_habitOf_103 : decode cX6_habitOf 103 = .ok (.bipush 9, 2) := by decide +kernel
theorem dX6_habitOf_105 : decode cX6_habitOf 105 = .ok (.iload_n 2, 1) := by decide +kernel
theorem dX6_habitOf_106 : decode cX6_habitOf 106 = .ok (.iadd, 1) := by decide +kernel
theorem dX6_habitOf_107 : decode cX6_habitOf 107 = .ok (.iaload, 1) := by decide +kernel
theorem dX6_habitOf_108 : decode cX6_habitOf 108 = .ok (.if_icmp .le 6, 3) := by decide +kernel
theorem dX6_habitOf_111 : decode cX6_habitOf 111 = .ok (.iload_n 3, 1) := by decide +kernel
theorem dX6_habitOf_112 : decode cX6_habitOf 112 = .ok (.ineg, 1) := by decide +kernel
theorem dX6_habitOf_113 : decode cX6_habitOf 113 = .ok (.istore_n 2, 1) := by decide +kernel
theorem dX6_habitOf_114 : decode cX6_habitOf 114 = .ok (.aload_n 0, 1) := by decide +kernel
theorem dX6_habitOf_115 : decode cX6_habitOf 115 = .ok (.getfield 30, 3) := by decide +kernel
theorem dX6_habitOf_118 : decode cX6_habitOf 118 = .ok (.bipush 9, 2) := by decide +kernel
theorem dX6_habitOf_120 : decode cX6_habitOf 120 = .ok (.iload_n 3, 1) := by decide +kernel
theorem dX6_habitOf_121 : decode cX6_habitOf 121 = .ok (.iadd, 1) := by decide +kernel
theorem dX6_habitOf_122 : decode cX6_habitOf 122 = .ok (.iaload, 1) := by decide +kernel
theorem dX6_habitOf_123 : decode cX6_habitOf 123 = .ok (.aload_n 0, 1) := by decide +kernel
theorem dX6_habitOf_124 : decode cX6_habitOf 124 = .ok (.getfield 30, 3) := by decide +kernel
theorem dX6_habitOf_127 : decode cX6_habitOf 127 = .ok (.bipush 9, 2) := by decide +kernel
theorem dX6_habitOf_129 : decode cX6_habitOf 129 = .ok (.iload_n 2, 1) := by decide +kernel
theorem dX6_habitOf_130 : decode cX6_habitOf 130 = .ok (.iadd, 1) := by decide +kernel
theorem dX6_habitOf_131 : decode cX6_habitOf 131 = .ok (.iaload, 1) := by decide +kernel
theorem dX6_habitOf_132 : decode cX6_habitOf 132 = .ok (.if_icmp .le 5, 3) := by decide +kernel
theorem dX6_habitOf_135 : decode cX6_habitOf 135 = .ok (.iload_n 3, 1) := by decide +kernel
theorem dX6_habitOf_136 : decode cX6_habitOf 136 = .ok (.istore_n 2, 1) := by decide +kernel
theorem dX6_habitOf_137 : decode cX6_habitOf 137 = .ok (.iinc 3 1, 3) := by decide +kernel
theorem dX6_habitOf_140 : decode cX6_habitOf 140 = .ok (.goto (-56), 3) := by decide +kernel
theorem dX6_habitOf_143 : decode cX6_habitOf 143 = .ok (.iload_n 2, 1) := by decide +kernel
theorem dX6_habitOf_144 : decode cX6_habitOf 144 = .ok (.ireturn, 1) := by decide +kernel
theorem dX6_isBad_0 : decode cX6_isBad 0 = .ok (.aload_n 0, 1) := by decide +kernel
theorem dX6_isBad_1 : decode cX6_isBad 1 = .ok (.iload_n 1, 1) := by decide +kernel
theorem dX6_isBad_2 : decode cX6_isBad 2 = .ok (.invokevirtual 56, 3) := by decide +kernel
theorem dX6_isBad_5 : decode cX6_isBad 5 = .ok (.ifCond .eq 13, 3) := by decide +kernel
theorem dX6_isBad_8 : decode cX6_isBad 8 = .ok (.aload_n 0, 1) := by decide +kernel
theorem dX6_isBad_9 : decode cX6_isBad 9 = .ok (.getfield 27, 3) := by decide +kernel
theorem dX6_isBad_12 : decode cX6_isBad 12 = .ok (.iload_n 1, 1) := by decide +kernel
theorem dX6_isBad_13 : decode cX6_isBad 13 = .ok (.iaload, 1) := by decide +kernel
theorem dX6_isBad_14 : decode cX6_isBad 14 = .ok (.iconst (-1), 1) := by decide +kernel
theorem dX6_isBad_15 : decode cX6_isBad 15 = .ok (.if_icmp .ne 5, 3) := by decide +kernel
theorem dX6_isBad_18 : decode cX6_isBad 18 = .ok (.iconst 0, 1) := by decide +kernel
theorem dX6_isBad_19 : decode cX6_isBad 19 = .ok (.ireturn, 1) := by decide +kernel
theorem dX6_isBad_20 : decode cX6_isBad 20 = .ok (.aload_n 0, 1) := by decide +kernel
theorem dX6_isBad_21 : decode cX6_isBad 21 = .ok (.getfield 27, 3) := by decide +kernel
theorem dX6_isBad_24 : decode cX6_isBad 24 = .ok (.iload_n 1, 1) := by decide +kernel
theorem dX6_isBad_25 : decode cX6_isBad 25 = .ok (.iaload, 1) := by decide +kernel
theorem dX6_isBad_26 : decode cX6_isBad 26 = .ok (.aload_n 0, 1) := by decide +kernel
theorem dX6_isBad_27 : decode cX6_isBad 27 = .ok (.aload_n 0, 1) := by decide +kernel
theorem dX6_isBad_28 : decode cX6_isBad 28 = .ok (.getfield 9, 3) := by decide +kernel
theorem dX6_isBad_31 : decode cX6_isBad 31 = .ok (.iload_n 1, 1) := by decide +kernel
theorem dX6_isBad_32 : decode cX6_isBad 32 = .ok (.iaload, 1) := by decide +kernel
theorem dX6_isBad_33 : decode cX6_isBad 33 = .ok (.invokevirtual 60, 3) := by decide +kernel
theorem dX6_isBad_36 : decode cX6_isBad 36 = .ok (.iadd, 1) := by decide +kernel
theorem dX6_isBad_37 : decode cX6_isBad 37 = .ok (.istore_n 3, 1) := by decide +kernel
theorem dX6_isBad_38 : decode cX6_isBad 38 = .ok (.aload_n 0, 1) := by decide +kernel
theorem dX6_isBad_39 : decode cX6_isBad 39 = .ok (.getfield 21, 3) := by decide +kernel
theorem dX6_isBad_42 : decode cX6_isBad 42 = .ok (.iload_n 1, 1) := by decide +kernel
theorem dX6_isBad_43 : decode cX6_isBad 43 = .ok (.iaload, 1) := by decide +kernel
theorem dX6_isBad_44 : decode cX6_isBad 44 = .ok (.iload_n 3, 1) := by decide +kernel
theorem dX6_isBad_45 : decode cX6_isBad 45 = .ok (.isub, 1) := by decide +kernel
theorem dX6_isBad_46 : decode cX6_isBad 46 = .ok (.invokestatic 50, 3) := by decide +kernel
theorem dX6_isBad_49 : decode cX6_isBad 49 = .ok (.iload_n 2, 1) := by decide +kernel
theorem dX6_isBad_50 : decode cX6_isBad 50 = .ok (.if_icmp .le 7, 3) := by decide +kernel
theorem dX6_isBad_53 : decode cX6_isBad 53 = .ok (.iconst 1, 1) := by decide +kernel
theorem dX6_isBad_54 : decode cX6_isBad 54 = .ok (.goto 4, 3) := by decide +kernel
theorem dX6_isBad_57 : decode cX6_isBad 57 = .ok (.iconst 0, 1) := by decide +kernel
theorem dX6_isBad_58 : decode cX6_isBad 58 = .ok (.ireturn, 1) := by decide +kernel
theorem dX7_init_0 : decode cX7_init 0 = .ok (.aload_n 0, 1) := by decide +kernel
theorem dX7_init_1 : decode cX7_init 1 = .ok (.invokespecial 3, 3) := by decide +kernel
theorem dX7_init_4 : decode cX7_init 4 = .ok (.aload_n 0, 1) := by decide +kernel
theorem dX7_init_5 : decode cX7_init 5 = .ok (.aload_n 1, 1) := by decide +kernel
theorem dX7_init_6 : decode cX7_init 6 = .ok (.getfield 9, 3) := by decide +kernel
theorem dX7_init_9 : decode cX7_init 9 = .ok (.putfield 15, 3) := by decide +kernel
theorem dX7_init_12 : decode cX7_init 12 = .ok (.aload_n 0, 1) := by decide +kernel
theorem dX7_init_13 : decode cX7_init 13 = .ok (.aload_n 1, 1) := by decide +kernel
theorem dX7_init_14 : decode cX7_init 14 = .ok (.getfield 18, 3) := by decide +kernel
theorem dX7_init_17 : decode cX7_init 17 = .ok (.putfield 21, 3) := by decide +kernel
theorem dX7_init_20 : decode cX7_init 20 = .ok (.aload_n 0, 1) := by decide +kernel
theorem dX7_init_21 : decode cX7_init 21 = .ok (.aload_n 1, 1) := by decide +kernel
theorem dX7_init_22 : decode cX7_init 22 = .ok (.getfield 22, 3) := by decide +kernel
theorem dX7_init_25 : decode cX7_init 25 = .ok (.invokevirtual 26, 3) := by decide +kernel
theorem dX7_init_28 : decode cX7_init 28 = .ok (.checkcast 27, 3) := by decide +kernel
theorem dX7_init_31 : decode cX7_init 31 = .ok (.putfield 31, 3) := by decide +kernel
theorem dX7_init_34 : decode cX7_init 34 = .ok (.aload_n 0, 1) := by decide +kernel
theorem dX7_init_35 : decode cX7_init 35 = .ok (.aload_n 1, 1) := by decide +kernel
theorem dX7_init_36 : decode cX7_init 36 = .ok (.getfield 32, 3) := by decide +kernel
theorem dX7_init_39 : decode cX7_init 39 = .ok (.invokevirtual 26, 3) := by decide +kernel
theorem dX7_init_42 : decode cX7_init 42 = .ok (.checkcast 27, 3) := by decide +kernel
theorem dX7_init_45 : decode cX7_init 45 = .ok (.putfield 35, 3) := by decide +kernel
theorem dX7_init_48 : decode cX7_init 48 = .ok (.aload_n 0, 1) := by decide +kernel
theorem dX7_init_49 : decode cX7_init 49 = .ok (.iconst 5, 1) := by decide +kernel
theorem dX7_init_50 : decode cX7_init 50 = .ok (.newarray .int, 2) := by decide +kernel
theorem dX7_init_52 : decode cX7_init 52 = .ok (.putfield 36, 3) := by decide +kernel
theorem dX7_init_55 : decode cX7_init 55 = .ok (.aload_n 0, 1) := by decide +kernel
theorem dX7_init_56 : decode cX7_init 56 = .ok (.iconst 5, 1) := by decide +kernel
theorem dX7_init_57 : decode cX7_init 57 = .ok (.bipush 40, 2) := by decide +kernel
theorem dX7_init_59 : decode cX7_init 59 = .ok (.multianewarray 39 2, 4) := by decide +kernel
theorem dX7_init_63 : decode cX7_init 63 = .ok (.putfield 41, 3) := by decide +kernel
theorem dX7_init_66 : decode cX7_init 66 = .ok (.aload_n 0, 1) := by decide +kernel
theorem dX7_init_67 : decode cX7_init 67 = .ok (.bipush 40, 2) := by decide +kernel
theorem dX7_init_69 : decode cX7_init 69 = .ok (.newarray .int, 2) := by decide +kernel
theorem dX7_init_71 : decode cX7_init 71 = .ok (.putfield 44, 3) := by decide +kernel
theorem dX7_init_74 : decode cX7_init 74 = .ok (.return_, 1) := by decide +kernel
theorem dX7_hasTerm_0 : decode cX7_hasTerm 0 = .ok (.iload_n 1, 1) := by decide +kernel
theorem dX7_hasTerm_1 : decode cX7_hasTerm 1 = .ok (.ifCond .lt 20, 3) := by decide +kernel
theorem dX7_hasTerm_4 : decode cX7_hasTerm 4 = .ok (.iload_n 1, 1) := by decide +kernel
theorem dX7_hasTerm_5 : decode cX7_hasTerm 5 = .ok (.aload_n 0, 1) := by decide +kernel
theorem dX7_hasTerm_6 : decode cX7_hasTerm 6 = .ok (.getfield 15, 3) := by decide +kernel
theorem dX7_hasTerm_9 : decode cX7_hasTerm 9 = .ok (.if_icmp .ge 12, 3) := by decide +kernel
theorem dX7_hasTerm_12 : decode cX7_hasTerm 12 = .ok (.iload_n 1, 1) := by decide +kernel
theorem dX7_hasTerm_13 : decode cX7_hasTerm 13 = .ok (.iconst 5, 1) := by decide +kernel
theorem dX7_hasTerm_14 : decode cX7_hasTerm 14 = .ok (.if_icmp .ge 7, 3) := by decide +kernel
theorem dX7_hasTerm_17 : decode cX7_hasTerm 17 = .ok (.iconst 1, 1) := by decide +kernel
theorem dX7_hasTerm_18 : decode cX7_hasTerm 18 = .ok (.goto 4, 3) := by decide +kernel
theorem dX7_hasTerm_21 : decode cX7_hasTerm 21 = .ok (.iconst 0, 1) := by decide +kernel
theorem dX7_hasTerm_22 : decode cX7_hasTerm 22 = .ok (.ireturn, 1) := by decide +kernel
theorem dX7_kindOf_0 : decode cX7_kindOf 0 = .ok (.aload_n 0, 1) := by decide +kernel
theorem dX7_kindOf_1 : decode cX7_kindOf 1 = .ok (.iload_n 1, 1) := by decide +kernel
theorem dX7_kindOf_2 : decode cX7_kindOf 2 = .ok (.invokevirtual 47, 3) := by decide +kernel
theorem dX7_kindOf_5 : decode cX7_kindOf 5 = .ok (.ifCond .eq 12, 3) := by decide +kernel
theorem dX7_kindOf_8 : decode cX7_kindOf 8 = .ok (.aload_n 0, 1) := by decide +kernel
theorem dX7_kindOf_9 : decode cX7_kindOf 9 = .ok (.getfield 31, 3) := by decide +kernel
theorem dX7_kindOf_12 : decode cX7_kindOf 12 = .ok (.iload_n 1, 1) := by decide +kernel
theorem dX7_kindOf_13 : decode cX7_kindOf 13 = .ok (.iaload, 1) := by decide +kernel
theorem dX7_kindOf_14 : decode cX7_kindOf 14 = .ok (.goto 5, 3) := by decide +kernel
theorem dX7_kindOf_17 : decode cX7_kindOf 17 = .ok (.ldc 51, 2) := by decide +kernel
theorem dX7_kindOf_19 : decode cX7_kindOf 19 = .ok (.ireturn, 1) := by decide +kernel
theorem dX7_signOf_0 : decode cX7_signOf 0 = .ok (.aload_n 0, 1) := by decide +kernel
theorem dX7_signOf_1 : decode cX7_signOf 1 = .ok (.iload_n 1, 1) := by decide +kernel
theorem dX7_signOf_2 : decode cX7_signOf 2 = .ok (.invokevirtual 47, 3) := by decide +kernel
theorem dX7_signOf_5 : decode cX7_signOf 5 = .ok (.ifCond .eq 12, 3) := by decide +kernel
theorem dX7_signOf_8 : decode cX7_signOf 8 = .ok (.aload_n 0, 1) := by decide +kernel
theorem dX7_signOf_9 : decode cX7_signOf 9 = .ok (.getfield 35, 3) := by decide +kernel
theorem dX7_signOf_12 : decode cX7_signOf 12 = .ok (.iload_n 1, 1) := by decide +kernel
theorem dX7_signOf_13 : decode cX7_signOf 13 = .ok (.iaload, 1) := by decide +kernel
theorem dX7_signOf_14 : decode cX7_signOf 14 = .ok (.goto 5, 3) := by decide +kernel
theorem dX7_signOf_17 : decode cX7_signOf 17 = .ok (.ldc 51, 2) := by decide +kernel
theorem dX7_signOf_19 : decode cX7_signOf 19 = .ok (.ireturn, 1) := by decide +kernel
theorem dX7_canRange_0 : decode cX7_canRange 0 = .ok (.aload_n 0, 1) := by decide +kernel
theorem dX7_canRange_1 : decode cX7_canRange 1 = .ok (.iload_n 1, 1) := by decide +kernel
theorem dX7_canRange_2 : decode cX7_canRange 2 = .ok (.invokevirtual 47, 3) := by decide +kernel
theorem dX7_canRange_5 : decode cX7_canRange 5 = .ok (.ifCond .eq 12, 3) := by decide +kernel
theorem dX7_canRange_8 : decode cX7_canRange 8 = .ok (.aload_n 0, 1) := by decide +kernel
theorem dX7_canRange_9 : decode cX7_canRange 9 = .ok (.getfield 36, 3) := by decide +kernel
theorem dX7_canRange_12 : decode cX7_canRange 12 = .ok (.iload_n 1, 1) := by decide +kernel
theorem dX7_canRange_13 : decode cX7_canRange 13 = .ok (.iaload, 1) := by decide +kernel
theorem dX7_canRange_14 : decode cX7_canRange 14 = .ok (.ifCond .eq 5, 3) := by decide +kernel
theorem dX7_canRange_17 : decode cX7_canRange 17 = .ok (.iconst 0, 1) := by decide +kernel
theorem dX7_canRange_18 : decode cX7_canRange 18 = .ok (.ireturn, 1) := by decide +kernel
theorem dX7_canRange_19 : decode cX7_canRange 19 = .ok (.iload_n 3, 1) := by decide +kernel
theorem dX7_canRange_20 : decode cX7_canRange 20 = .ok (.iconst 1, 1) := by decide +kernel
theorem dX7_canRange_21 : decode cX7_canRange 21 = .ok (.if_icmp .lt 23, 3) := by decide +kernel
theorem dX7_canRange_24 : decode cX7_canRange 24 = .ok (.iload_n 3, 1) := by decide +kernel
theorem dX7_canRange_25 : decode cX7_canRange 25 = .ok (.sipush 500, 3) := by decide +kernel
theorem dX7_canRange_28 : decode cX7_canRange 28 = .ok (.if_icmp .gt 16, 3) := by decide +kernel
theorem dX7_canRange_31 : decode cX7_canRange 31 = .ok (.iload 4, 2) := by decide +kernel
theorem dX7_canRange_33 : decode cX7_canRange 33 = .ok (.iconst 2, 1) := by decide +kernel
theorem dX7_canRange_34 : decode cX7_canRange 34 = .ok (.if_icmp .lt 10, 3) := by decide +kernel
theorem dX7_canRange_37 : decode cX7_canRange 37 = .ok (.iload 4, 2) := by decide +kernel
theorem dX7_canRange_39 : decode cX7_canRange 39 = .ok (.bipush 40, 2) := by decide +kernel
theorem dX7_canRange_41 : decode cX7_canRange 41 = .ok (.if_icmp .le 5, 3) := by decide +kernel
theorem dX7_canRange_44 : decode cX7_canRange 44 = .ok (.iconst 0, 1) := by decide +kernel
theorem dX7_canRange_45 : decode cX7_canRange 45 = .ok (.ireturn, 1) := by decide +kernel
theorem dX7_canRange_46 : decode cX7_canRange 46 = .ok (.iload_n 2, 1) := by decide +kernel
theorem dX7_canRange_47 : decode cX7_canRange 47 = .ok (.i2l, 1) := by decide +kernel
theorem dX7_canRange_48 : decode cX7_canRange 48 = .ok (.iload_n 3, 1) := by decide +kernel
theorem dX7_canRange_49 : decode cX7_canRange 49 = .ok (.i2l, 1) := by decide +kernel
theorem dX7_canRange_50 : decode cX7_canRange 50 = .ok (.iload 4, 2) := by decide +kernel
theorem dX7_canRange_52 : decode cX7_canRange 52 = .ok (.iconst 1, 1) := by decide +kernel
theorem dX7_canRange_53 : decode cX7_canRange 53 = .ok (.isub, 1) := by decide +kernel
theorem dX7_canRange_54 : decode cX7_canRange 54 = .ok (.i2l, 1) := by decide +kernel
theorem dX7_canRange_55 : decode cX7_canRange 55 = .ok (.lmul, 1) := by decide +kernel
theorem dX7_canRange_56 : decode cX7_canRange 56 = .ok (.ladd, 1) := by decide +kernel
theorem dX7_canRange_57 : decode cX7_canRange 57 = .ok (.lstore 5, 2) := by decide +kernel
theorem dX7_canRange_59 : decode cX7_canRange 59 = .ok (.iload_n 2, 1) := by decide +kernel
theorem dX7_canRange_60 : decode cX7_canRange 60 = .ok (.aload_n 0, 1) := by decide +kernel
theorem dX7_canRange_61 : decode cX7_canRange 61 = .ok (.getfield 31, 3) := by decide +kernel
theorem dX7_canRange_64 : decode cX7_canRange 64 = .ok (.iload_n 1, 1) := by decide +kernel
theorem dX7_canRange_65 : decode cX7_canRange 65 = .ok (.iaload, 1) := by decide +kernel
theorem dX7_canRange_66 : decode cX7_canRange 66 = .ok (.invokestatic 52, 3) := by decide +kernel
theorem dX7_canRange_69 : decode cX7_canRange 69 = .ok (.if_icmp .lt 23, 3) := by decide +kernel
theorem dX7_canRange_72 : decode cX7_canRange 72 = .ok (.lload 5, 2) := by decide +kernel
theorem dX7_canRange_74 : decode cX7_canRange 74 = .ok (.aload_n 0, 1) := by decide +kernel
theorem dX7_canRange_75 : decode cX7_canRange 75 = .ok (.getfield 31, 3) := by decide +kernel
theorem dX7_canRange_78 : decode cX7_canRange 78 = .ok (.iload_n 1, 1) := by decide +kernel
theorem dX7_canRange_79 : decode cX7_canRange 79 = .ok (.iaload, 1) := by decide +kernel
theorem dX7_canRange_80 : decode cX7_canRange 80 = .ok (.invokestatic 56, 3) := by decide +kernel
theorem dX7_canRange_83 : decode cX7_canRange 83 = .ok (.i2l, 1) := by decide +kernel
theorem dX7_canRange_84 : decode cX7_canRange 84 = .ok (.lcmp, 1) := by decide +kernel
theorem dX7_canRange_85 : decode cX7_canRange 85 = .ok (.ifCond .gt 7, 3) := by decide +kernel
theorem dX7_canRange_88 : decode cX7_canRange 88 = .ok (.iconst 1, 1) := by decide +kernel
theorem dX7_canRange_89 : decode cX7_canRange 89 = .ok (.goto 4, 3) := by decide +kernel
theorem dX7_canRange_92 : decode cX7_canRange 92 = .ok (.iconst 0, 1) := by decide +kernel
theorem dX7_canRange_93 : decode cX7_canRange 93 = .ok (.ireturn, 1) := by decide +kernel
theorem dX7_putRange_0 : decode cX7_putRange 0 = .ok (.aload_n 0, 1) := by decide +kernel
theorem dX7_putRange_1 : decode cX7_putRange 1 = .ok (.iload_n 1, 1) := by decide +kernel
theorem dX7_putRange_2 : decode cX7_putRange 2 = .ok (.iload_n 2, 1) := by decide +kernel
theorem dX7_putRange_3 : decode cX7_putRange 3 = .ok (.iload_n 3, 1) := by decide +kernel
theorem dX7_putRange_4 : decode cX7_putRange 4 = .ok (.iload 4, 2) := by decide +kernel
theorem dX7_putRange_6 : decode cX7_putRange 6 = .ok (.invokevirtual 59, 3) := by decide +kernel
theorem dX7_putRange_9 : decode cX7_putRange 9 = .ok (.ifCond .ne 4, 3) := by decide +kernel
theorem dX7_putRange_12 : decode cX7_putRange 12 = .ok (.return_, 1) := by decide +kernel
theorem dX7_putRange_13 : decode cX7_putRange 13 = .ok (.iconst 0, 1) := by decide +kernel
theorem dX7_putRange_14 : decode cX7_putRange 14 = .ok (.istore 5, 2) := by decide +kernel
theorem dX7_putRange_16 : decode cX7_putRange 16 = .ok (.iload 5, 2) := by decide +kernel
theorem dX7_putRange_18 : decode cX7_putRange 18 = .ok (.iload 4, 2) := by decide +kernel
theorem dX7_putRange_20 : decode cX7_putRange 20 = .ok (.if_icmp .ge 50, 3) := by decide +kernel
theorem dX7_putRange_23 : decode cX7_putRange 23 = .ok (.aload_n 0, 1) := by decide +kernel
theorem dX7_putRange_24 : decode cX7_putRange 24 = .ok (.getfield 41, 3) := by decide +kernel
theorem dX7_putRange_27 : decode cX7_putRange 27 = .ok (.iload_n 1, 1) := by decide +kernel
theorem dX7_putRange_28 : decode cX7_putRange 28 = .ok (.aaload, 1) := by decide +kernel
theorem dX7_putRange_29 : decode cX7_putRange 29 = .ok (.iload 5, 2) := by decide +kernel
theorem dX7_putRange_31 : decode cX7_putRange 31 = .ok (.aload_n 0, 1) := by decide +kernel
theorem dX7_putRange_32 : decode cX7_putRange 32 = .ok (.getfield 31, 3) := by decide +kernel
theorem dX7_putRange_35 : decode cX7_putRange 35 = .ok (.iload_n 1, 1) := by decide +kernel
theorem dX7_putRange_36 : decode cX7_putRange 36 = .ok (.iaload, 1) := by decide +kernel
theorem dX7_putRange_37 : decode cX7_putRange 37 = .ok (.iload_n 2, 1) := by decide +kernel
theorem dX7_putRange_38 : decode cX7_putRange 38 = .ok (.iload_n 3, 1) := by decide +kernel
theorem dX7_putRange_39 : decode cX7_putRange 39 = .ok (.iload 5, 2) := by decide +kernel
theorem dX7_putRange_41 : decode cX7_putRange 41 = .ok (.imul, 1) := by decide +kernel
theorem dX7_putRange_42 : decode cX7_putRange 42 = .ok (.iadd, 1) := by decide +kernel
theorem dX7_putRange_43 : decode cX7_putRange 43 = .ok (.invokestatic 63, 3) := by decide +kernel
theorem dX7_putRange_46 : decode cX7_putRange 46 = .ok (.iastore, 1) := by decide +kernel
theorem dX7_putRange_47 : decode cX7_putRange 47 = .ok (.iload_n 1, 1) := by decide +kernel
theorem dX7_putRange_48 : decode cX7_putRange 48 = .ok (.ifCond .ne 16, 3) := by decide +kernel
theorem dX7_putRange_51 : decode cX7_putRange 51 = .ok (.aload_n 0, 1) := by decide +kernel
theorem dX7_putRange_52 : decode cX7_putRange 52 = .ok (.aload_n 0, 1) := by decide +kernel
theorem dX7_putRange_53 : decode cX7_putRange 53 = .ok (.getfield 41, 3) := by decide +kernel
theorem dX7_putRange_56 : decode cX7_putRange 56 = .ok (.iload_n 1, 1) := by decide +kernel
theorem dX7_putRange_57 : decode cX7_putRange 57 = .ok (.aaload, 1) := by decide +kernel
theorem dX7_putRange_58 : decode cX7_putRange 58 = .ok (.iload 5, 2) := by decide +kernel
theorem dX7_putRange_60 : decode cX7_putRange 60 = .ok (.iaload, 1) := by decide +kernel
theorem dX7_putRange_61 : decode cX7_putRange 61 = .ok (.invokevirtual 67, 3) := by decide +kernel
theorem dX7_putRange_64 : decode cX7_putRange 64 = .ok (.iinc 5 1, 3) := by decide +kernel
theorem dX7_putRange_67 : decode cX7_putRange 67 = .ok (.goto (-51), 3) := by decide +kernel
theorem dX7_putRange_70 : decode cX7_putRange 70 = .ok (.aload_n 0, 1) := by decide +kernel
theorem dX7_putRange_71 : decode cX7_putRange 71 = .ok (.getfield 36, 3) := by decide +kernel
theorem dX7_putRange_74 : decode cX7_putRange 74 = .ok (.iload_n 1, 1) := by decide +kernel
theorem dX7_putRange_75 : decode cX7_putRange 75 = .ok (.iload 4, 2) := by decide +kernel
theorem dX7_putRange_77 : decode cX7_putRange 77 = .ok (.iastore, 1) := by decide +kernel
theorem dX7_putRange_78 : decode cX7_putRange 78 = .ok (.return_, 1) := by decide +kernel
theorem dX7_putOnScale_0 : decode cX7_putOnScale 0 = .ok (.iconst 0, 1) := by decide +kernel
theorem dX7_putOnScale_1 : decode cX7_putOnScale 1 = .ok (.istore_n 2, 1) := by decide +kernel
theorem dX7_putOnScale_2 : decode cX7_putOnScale 2 = .ok (.iload_n 2, 1) := by decide +kernel
theorem dX7_putOnScale_3 : decode cX7_putOnScale 3 = .ok (.aload_n 0, 1) := by decide +kernel
theorem dX7_putOnScale_4 : decode cX7_putOnScale 4 = .ok (.getfield 71, 3) := by decide +kernel
theorem dX7_putOnScale_7 : decode cX7_putOnScale 7 = .ok (.if_icmp .ge 19, 3) := by decide +kernel
theorem dX7_putOnScale_10 : decode cX7_putOnScale 10 = .ok (.aload_n 0, 1) := by decide +kernel
theorem dX7_putOnScale_11 : decode cX7_putOnScale 11 = .ok (.getfield 44, 3) := by decide +kernel
theorem dX7_putOnScale_14 : decode cX7_putOnScale 14 = .ok (.iload_n 2, 1) := by decide +kernel
theorem dX7_putOnScale_15 : decode cX7_putOnScale 15 = .ok (.iaload, 1) := by decide +kernel
theorem dX7_putOnScale_16 : decode cX7_putOnScale 16 = .ok (.iload_n 1, 1) := by decide +kernel
theorem dX7_putOnScale_17 : decode cX7_putOnScale 17 = .ok (.if_icmp .ge 9, 3) := by decide +kernel
theorem dX7_putOnScale_20 : decode cX7_putOnScale 20 = .ok (.iinc 2 1, 3) := by decide +kernel
theorem dX7_putOnScale_23 : decode cX7_putOnScale 23 = .ok (.goto (-21), 3) := by decide +kernel
theorem dX7_putOnScale_26 : decode cX7_putOnScale 26 = .ok (.aload_n 0, 1) := by decide +kernel
theorem dX7_putOnScale_27 : decode cX7_putOnScale 27 = .ok (.getfield 71, 3) := by decide +kernel
theorem dX7_putOnScale_30 : decode cX7_putOnScale 30 = .ok (.aload_n 0, 1) := by decide +kernel
theorem dX7_putOnScale_31 : decode cX7_putOnScale 31 = .ok (.getfield 44, 3) := by decide +kernel
theorem dX7_putOnScale_34 : decode cX7_putOnScale 34 = .ok (.arraylength, 1) := by decide +kernel
theorem dX7_putOnScale_35 : decode cX7_putOnScale 35 = .ok (.if_icmp .ge 21, 3) := by decide +kernel
theorem dX7_putOnScale_38 : decode cX7_putOnScale 38 = .ok (.iload_n 2, 1) := by decide +kernel
theorem dX7_putOnScale_39 : decode cX7_putOnScale 39 = .ok (.aload_n 0, 1) := by decide +kernel
theorem dX7_putOnScale_40 : decode cX7_putOnScale 40 = .ok (.getfield 71, 3) := by decide +kernel
theorem dX7_putOnScale_43 : decode cX7_putOnScale 43 = .ok (.if_icmp .ge 14, 3) := by decide +kernel
theorem dX7_putOnScale_46 : decode cX7_putOnScale 46 = .ok (.aload_n 0, 1) := by decide +kernel
theorem dX7_putOnScale_47 : decode cX7_putOnScale 47 = .ok (.getfield 44, 3) := by decide +kernel
theorem dX7_putOnScale_50 : decode cX7_putOnScale 50 = .ok (.iload_n 2, 1) := by decide +kernel
theorem dX7_putOnScale_51 : decode cX7_putOnScale 51 = .ok (.iaload, 1) := by decide +kernel
theorem dX7_putOnScale_52 : decode cX7_putOnScale 52 = .ok (.iload_n 1, 1) := by decide +kernel
theorem dX7_putOnScale_53 : decode cX7_putOnScale 53 = .ok (.if_icmp .ne 4, 3) := by decide +kernel
theorem dX7_putOnScale_56 : decode cX7_putOnScale 56 = .ok (.return_, 1) := by decide +kernel
theorem dX7_putOnScale_57 : decode cX7_putOnScale 57 = .ok (.aload_n 0, 1) := by decide +kernel
theorem dX7_putOnScale_58 : decode cX7_putOnScale 58 = .ok (.getfield 71, 3) := by decide +kernel
theorem dX7_putOnScale_61 : decode cX7_putOnScale 61 = .ok (.istore_n 3, 1) := by decide +kernel
theorem dX7_putOnScale_62 : decode cX7_putOnScale 62 = .ok (.iload_n 3, 1) := by decide +kernel
theorem dX7_putOnScale_63 : decode cX7_putOnScale 63 = .ok (.iload_n 2, 1) := by decide +kernel
theorem dX7_putOnScale_64 : decode cX7_putOnScale 64 = .ok (.if_icmp .le 23, 3) := by decide +kernel
theorem dX7_putOnScale_67 : decode cX7_putOnScale 67 = .ok (.aload_n 0, 1) := by decide +kernel
theorem dX7_putOnScale_68 : decode cX7_putOnScale 68 = .ok (.getfield 44, 3) := by decide +kernel
theorem dX7_putOnScale_71 : decode cX7_putOnScale 71 = .ok (.iload_n 3, 1) := by decide +kernel
theorem dX7_putOnScale_72 : decode cX7_putOnScale 72 = .ok (.aload_n 0, 1) := by decide +kernel
theorem dX7_putOnScale_73 : decode cX7_putOnScale 73 = .ok (.getfield 44, 3) := by decide +kernel
theorem dX7_putOnScale_76 : decode cX7_putOnScale 76 = .ok (.iload_n 3, 1) := by decide +kernel
theorem dX7_putOnScale_77 : decode cX7_putOnScale 77 = .ok (.iconst 1, 1) := by decide +kernel
theorem dX7_putOnScale_78 : decode cX7_putOnScale 78 = .ok (.isub, 1) := by decide +kernel
theorem dX7_putOnScale_79 : decode cX7_putOnScale 79 = .ok (.iaload, 1) := by decide +kernel
theorem dX7_putOnScale_80 : decode cX7_putOnScale 80 = .ok (.iastore, 1) := by decide +kernel
theorem dX7_putOnScale_81 : decode cX7_putOnScale 81 = .ok (.iinc 3 (-1), 3) := by decide +kernel
theorem dX7_putOnScale_84 : decode cX7_putOnScale 84 = .ok (.goto (-22), 3) := by decide +kernel
theorem dX7_putOnScale_87 : decode cX7_putOnScale 87 = .ok (.aload_n 0, 1) := by decide +kernel
theorem dX7_putOnScale_88 : decode cX7_putOnScale 88 = .ok (.getfield 44, 3) := by decide +kernel
theorem dX7_putOnScale_91 : decode cX7_putOnScale 91 = .ok (.iload_n 2, 1) := by decide +kernel
theorem dX7_putOnScale_92 : decode cX7_putOnScale 92 = .ok (.iload_n 1, 1) := by decide +kernel
theorem dX7_putOnScale_93 : decode cX7_putOnScale 93 = .ok (.iastore, 1) := by decide +kernel
theorem dX7_putOnScale_94 : decode cX7_putOnScale 94 = .ok (.aload_n 0, 1) := by decide +kernel
theorem dX7_putOnScale_95 : decode cX7_putOnScale 95 = .ok (.dup, 1) := by decide +kernel
theorem dX7_putOnScale_96 : decode cX7_putOnScale 96 = .ok (.getfield 71, 3) := by decide +kernel
theorem dX7_putOnScale_99 : decode cX7_putOnScale 99 = .ok (.iconst 1, 1) := by decide +kernel
theorem dX7_putOnScale_100 : decode cX7_putOnScale 100 = .ok (.iadd, 1) := by decide +kernel
theorem dX7_putOnScale_101 : decode cX7_putOnScale 101 = .ok (.putfield 71, 3) := by decide +kernel
theorem dX7_putOnScale_104 : decode cX7_putOnScale 104 = .ok (.return_, 1) := by decide +kernel
theorem dX7_hasAllRanges_0 : decode cX7_hasAllRanges 0 = .ok (.iconst 0, 1) := by decide +kernel
theorem dX7_hasAllRanges_1 : decode cX7_hasAllRanges 1 = .ok (.istore_n 1, 1) := by decide +kernel
theorem dX7_hasAllRanges_2 : decode cX7_hasAllRanges 2 = .ok (.iload_n 1, 1) := by decide +kernel
theorem dX7_hasAllRanges_3 : decode cX7_hasAllRanges 3 = .ok (.aload_n 0, 1) := by decide +kernel
theorem dX7_hasAllRanges_4 : decode cX7_hasAllRanges 4 = .ok (.getfield 15, 3) := by decide +kernel
theorem dX7_hasAllRanges_7 : decode cX7_hasAllRanges 7 = .ok (.if_icmp .ge 20, 3) := by decide +kernel
theorem dX7_hasAllRanges_10 : decode cX7_hasAllRanges 10 = .ok (.aload_n 0, 1) := by decide +kernel
theorem dX7_hasAllRanges_11 : decode cX7_hasAllRanges 11 = .ok (.getfield 36, 3) := by decide +kernel
theorem dX7_hasAllRanges_14 : decode cX7_hasAllRanges 14 = .ok (.iload_n 1, 1) := by decide +kernel
theorem dX7_hasAllRanges_15 : decode cX7_hasAllRanges 15 = .ok (.iaload, 1) := by decide +kernel
theorem dX7_hasAllRanges_16 : decode cX7_hasAllRanges 16 = .ok (.ifCond .ne 5, 3) := by decide +kernel
theorem dX7_hasAllRanges_19 : decode cX7_hasAllRanges 19 = .ok (.iconst 0, 1) := by decide +kernel
theorem dX7_hasAllRanges_20 : decode cX7_hasAllRanges 20 = .ok (.ireturn, 1) := by decide +kernel
theorem dX7_hasAllRanges_21 : decode cX7_hasAllRanges 21 = .ok (.iinc 1 1, 3) := by decide +kernel
theorem dX7_hasAllRanges_24 : decode cX7_hasAllRanges 24 = .ok (.goto (-22), 3) := by decide +kernel
theorem dX7_hasAllRanges_27 : decode cX7_hasAllRanges 27 = .ok (.iconst 1, 1) := by decide +kernel
theorem dX7_hasAllRanges_28 : decode cX7_hasAllRanges 28 = .ok (.ireturn, 1) := by decide +kernel
theorem dX7_hasMark_0 : decode cX7_hasMark 0 = .ok (.aload_n 0, 1) := by decide +kernel
theorem dX7_hasMark_1 : decode cX7_hasMark 1 = .ok (.iload_n 1, 1) := by decide +kernel
theorem dX7_hasMark_2 : decode cX7_hasMark 2 = .ok (.invokevirtual 47, 3) := by decide +kernel
theorem dX7_hasMark_5 : decode cX7_hasMark 5 = .ok (.ifCond .eq 21, 3) := by decide +kernel
theorem dX7_hasMark_8 : decode cX7_hasMark 8 = .ok (.iload_n 2, 1) := by decide +kernel
theorem dX7_hasMark_9 : decode cX7_hasMark 9 = .ok (.ifCond .lt 17, 3) := by decide +kernel
theorem dX7_hasMark_12 : decode cX7_hasMark 12 = .ok (.iload_n 2, 1) := by decide +kernel
theorem dX7_hasMark_13 : decode cX7_hasMark 13 = .ok (.aload_n 0, 1) := by decide +kernel
theorem dX7_hasMark_14 : decode cX7_hasMark 14 = .ok (.getfield 36, 3) := by decide +kernel
theorem dX7_hasMark_17 : decode cX7_hasMark 17 = .ok (.iload_n 1, 1) := by decide +kernel
theorem dX7_hasMark_18 : decode cX7_hasMark 18 = .ok (.iaload, 1) := by decide +kernel
theorem dX7_hasMark_19 : decode cX7_hasMark 19 = .ok (.if_icmp .ge 7, 3) := by decide +kernel
theorem dX7_hasMark_22 : decode cX7_hasMark 22 = .ok (.iconst 1, 1) := by decide +kernel
theorem dX7_hasMark_23 : decode cX7_hasMark 23 = .ok (.goto 4, 3) := by decide +kernel
theorem dX7_hasMark_26 : decode cX7_hasMark 26 = .ok (.iconst 0, 1) := by decide +kernel
theorem dX7_hasMark_27 : decode cX7_hasMark 27 = .ok (.ireturn, 1) := by decide +kernel
theorem dX7_numberOf_0 : decode cX7_numberOf 0 = .ok (.aload_n 0, 1) := by decide +kernel
theorem dX7_numberOf_1 : decode cX7_numberOf 1 = .ok (.iload_n 1, 1) := by decide +kernel
theorem dX7_numberOf_2 : decode cX7_numberOf 2 = .ok (.iload_n 2, 1) := by decide +kernel
theorem dX7_numberOf_3 : decode cX7_numberOf 3 = .ok (.invokevirtual 74, 3) := by decide +kernel
theorem dX7_numberOf_6 : decode cX7_numberOf 6 = .ok (.ifCond .eq 14, 3) := by decide +kernel
theorem dX7_numberOf_9 : decode cX7_numberOf 9 = .ok (.aload_n 0, 1) := by decide +kernel
theorem dX7_numberOf_10 : decode cX7_numberOf 10 = .ok (.getfield 41, 3) := by decide +kernel
theorem dX7_numberOf_13 : decode cX7_numberOf 13 = .ok (.iload_n 1, 1) := by decide +kernel
theorem dX7_numberOf_14 : decode cX7_numberOf 14 = .ok (.aaload, 1) := by decide +kernel
theorem dX7_numberOf_15 : decode cX7_numberOf 15 = .ok (.iload_n 2, 1) := by decide +kernel
theorem dX7_numberOf_16 : decode cX7_numberOf 16 = .ok (.iaload, 1) := by decide +kernel
theorem dX7_numberOf_17 : decode cX7_numberOf 17 = .ok (.goto 4, 3) := by decide +kernel
theorem dX7_numberOf_20 : decode cX7_numberOf 20 = .ok (.iconst 0, 1) := by decide +kernel
theorem dX7_numberOf_21 : decode cX7_numberOf 21 = .ok (.ireturn, 1) := by decide +kernel
theorem dX7_signedOf_0 : decode cX7_signedOf 0 = .ok (.aload_n 0, 1) := by decide +kernel
theorem dX7_signedOf_1 : decode cX7_signedOf 1 = .ok (.iload_n 1, 1) := by decide +kernel
theorem dX7_signedOf_2 : decode cX7_signedOf 2 = .ok (.iload_n 2, 1) := by decide +kernel
theorem dX7_signedOf_3 : decode cX7_signedOf 3 = .ok (.invokevirtual 74, 3) := by decide +kernel
theorem dX7_signedOf_6 : decode cX7_signedOf 6 = .ok (.ifCond .eq 21, 3) := by decide +kernel
theorem dX7_signedOf_9 : decode cX7_signedOf 9 = .ok (.aload_n 0, 1) := by decide +kernel
theorem dX7_signedOf_10 : decode cX7_signedOf 10 = .ok (.getfield 35, 3) := by decide +kernel
theorem dX7_signedOf_13 : decode cX7_signedOf 13 = .ok (.iload_n 1, 1) := by decide +kernel
theorem dX7_signedOf_14 : decode cX7_signedOf 14 = .ok (.iaload, 1) := by decide +kernel
theorem dX7_signedOf_15 : decode cX7_signedOf 15 = .ok (.aload_n 0, 1) := by decide +kernel
theorem dX7_signedOf_16 : decode cX7_signedOf 16 = .ok (.getfield 41, 3) := by decide +kernel
theorem dX7_signedOf_19 : decode cX7_signedOf 19 = .ok (.iload_n 1, 1) := by decide +kernel
theorem dX7_signedOf_20 : decode cX7_signedOf 20 = .ok (.aaload, 1) := by decide +kernel
theorem dX7_signedOf_21 : decode cX7_signedOf 21 = .ok (.iload_n 2, 1) := by decide +kernel
theorem dX7_signedOf_22 : decode cX7_signedOf 22 = .ok (.iaload, 1) := by decide +kernel
theorem dX7_signedOf_23 : decode cX7_signedOf 23 = .ok (.imul, 1) := by decide +kernel
theorem dX7_signedOf_24 : decode cX7_signedOf 24 = .ok (.goto 4, 3) := by decide +kernel
theorem dX7_signedOf_27 : decode cX7_signedOf 27 = .ok (.iconst 0, 1) := by decide +kernel
theorem dX7_signedOf_28 : decode cX7_signedOf 28 = .ok (.ireturn, 1) := by decide +kernel
theorem dX7_lastMarkOf_0 : decode cX7_lastMarkOf 0 = .ok (.aload_n 0, 1) := by decide +kernel
theorem dX7_lastMarkOf_1 : decode cX7_lastMarkOf 1 = .ok (.iload_n 1, 1) := by decide +kernel
theorem dX7_lastMarkOf_2 : decode cX7_lastMarkOf 2 = .ok (.invokevirtual 47, 3) := by decide +kernel
theorem dX7_lastMarkOf_5 : decode cX7_lastMarkOf 5 = .ok (.ifCond .eq 14, 3) := by decide +kernel
theorem dX7_lastMarkOf_8 : decode cX7_lastMarkOf 8 = .ok (.aload_n 0, 1) := by decide +kernel
theorem dX7_lastMarkOf_9 : decode cX7_lastMarkOf 9 = .ok (.getfield 36, 3) := by decide +kernel
theorem dX7_lastMarkOf_12 : decode cX7_lastMarkOf 12 = .ok (.iload_n 1, 1) := by decide +kernel
theorem dX7_lastMarkOf_13 : decode cX7_lastMarkOf 13 = .ok (.iaload, 1) := by decide +kernel
theorem dX7_lastMarkOf_14 : decode cX7_lastMarkOf 14 = .ok (.iconst 1, 1) := by decide +kernel
theorem dX7_lastMarkOf_15 : decode cX7_lastMarkOf 15 = .ok (.isub, 1) := by decide +kernel
theorem dX7_lastMarkOf_16 : decode cX7_lastMarkOf 16 = .ok (.goto 4, 3) := by decide +kernel
theorem dX7_lastMarkOf_19 : decode cX7_lastMarkOf 19 = .ok (.iconst 0, 1) := by decide +kernel
theorem dX7_lastMarkOf_20 : decode cX7_lastMarkOf 20 = .ok (.ireturn, 1) := by decide +kernel
theorem dX7_leastOf_0 : decode cX7_leastOf 0 = .ok (.aload_n 0, 1) := by decide +kernel
theorem dX7_leastOf_1 : decode cX7_leastOf 1 = .ok (.iload_n 1, 1) := by decide +kernel
theorem dX7_leastOf_2 : decode cX7_leastOf 2 = .ok (.iconst 0, 1) := by decide +kernel
theorem dX7_leastOf_3 : decode cX7_leastOf 3 = .ok (.invokevirtual 78, 3) := by decide +kernel
theorem dX7_leastOf_6 : decode cX7_leastOf 6 = .ok (.istore_n 2, 1) := by decide +kernel
theorem dX7_leastOf_7 : decode cX7_leastOf 7 = .ok (.iconst 1, 1) := by decide +kernel
theorem dX7_leastOf_8 : decode cX7_leastOf 8 = .ok (.istore_n 3, 1) := by decide +kernel
theorem dX7_leastOf_9 : decode cX7_leastOf 9 = .ok (.iload_n 3, 1) := by decide +kernel
theorem dX7_leastOf_10 : decode cX7_leastOf 10 = .ok (.aload_n 0, 1) := by decide +kernel
theorem dX7_leastOf_11 : decode cX7_leastOf 11 = .ok (.iload_n 1, 1) := by decide +kernel
theorem dX7_leastOf_12 : decode cX7_leastOf 12 = .ok (.invokevirtual 81, 3) := by decide +kernel
theorem dX7_leastOf_15 : decode cX7_leastOf 15 = .ok (.if_icmp .gt 20, 3) := by decide +kernel
theorem dX7_leastOf_18 : decode cX7_leastOf 18 = .ok (.iload_n 2, 1) := by decide +kernel
theorem dX7_leastOf_19 : decode cX7_leastOf 19 = .ok (.aload_n 0, 1) := by decide +kernel
theorem dX7_leastOf_20 : decode cX7_leastOf 20 = .ok (.iload_n 1, 1) := by decide +kernel
theorem dX7_leastOf_21 : decode cX7_leastOf 21 = .ok (.iload_n 3, 1) := by decide +kernel
theorem dX7_leastOf_22 : decode cX7_leastOf 22 = .ok (.invokevirtual 78, 3) := by decide +kernel
theorem dX7_leastOf_25 : decode cX7_leastOf 25 = .ok (.invokestatic 84, 3) := by decide +kernel
theorem dX7_leastOf_28 : decode cX7_leastOf 28 = .ok (.istore_n 2, 1) := by decide +kernel
theorem dX7_leastOf_29 : decode cX7_leastOf 29 = .ok (.iinc 3 1, 3) := by decide +kernel
theorem dX7_leastOf_32 : decode cX7_leastOf 32 = .ok (.goto (-23), 3) := by decide +kernel
theorem dX7_leastOf_35 : decode cX7_leastOf 35 = .ok (.iload_n 2, 1) := by decide +kernel
theorem dX7_leastOf_36 : decode cX7_leastOf 36 = .ok (.ireturn, 1) := by decide +kernel
theorem dX7_greatestOf_0 : decode cX7_greatestOf 0 = .ok (.aload_n 0, 1) := by decide +kernel
theorem dX7_greatestOf_1 : decode cX7_greatestOf 1 = .ok (.iload_n 1, 1) := by decide +kernel
theorem dX7_greatestOf_2 : decode cX7_greatestOf 2 = .ok (.iconst 0, 1) := by decide +kernel
theorem dX7_greatestOf_3 : decode cX7_greatestOf 3 = .ok (.invokevirtual 78, 3) := by decide +kernel
theorem dX7_greatestOf_6 : decode cX7_greatestOf 6 = .ok (.istore_n 2, 1) := by decide +kernel
theorem dX7_greatestOf_7 : decode cX7_greatestOf 7 = .ok (.iconst 1, 1) := by decide +kernel
theorem dX7_greatestOf_8 : decode cX7_greatestOf 8 = .ok (.istore_n 3, 1) := by decide +kernel
theorem dX7_greatestOf_9 : decode cX7_greatestOf 9 = .ok (.iload_n 3, 1) := by decide +kernel
theorem dX7_greatestOf_10 : decode cX7_greatestOf 10 = .ok (.aload_n 0, 1) := by decide +kernel
theorem dX7_greatestOf_11 : decode cX7_greatestOf 11 = .ok (.iload_n 1, 1) := by decide +kernel
theorem dX7_greatestOf_12 : decode cX7_greatestOf 12 = .ok (.invokevirtual 81, 3) := by decide +kernel
theorem dX7_greatestOf_15 : decode cX7_greatestOf 15 = .ok (.if_icmp .gt 20, 3) := by decide +kernel
theorem dX7_greatestOf_18 : decode cX7_greatestOf 18 = .ok (.iload_n 2, 1) := by decide +kernel
theorem dX7_greatestOf_19 : decode cX7_greatestOf 19 = .ok (.aload_n 0, 1) := by decide +kernel
theorem dX7_greatestOf_20 : decode cX7_greatestOf 20 = .ok (.iload_n 1, 1) := by decide +kernel
theorem dX7_greatestOf_21 : decode cX7_greatestOf 21 = .ok (.iload_n 3, 1) := by decide +kernel
theorem dX7_greatestOf_22 : decode cX7_greatestOf 22 = .ok (.invokevirtual 78, 3) := by decide +kernel
theorem dX7_greatestOf_25 : decode cX7_greatestOf 25 = .ok (.invokestatic 89, 3) := by decide +kernel
theorem dX7_greatestOf_28 : decode cX7_greatestOf 28 = .ok (.istore_n 2, 1) := by decide +kernel
theorem dX7_greatestOf_29 : decode cX7_greatestOf 29 = .ok (.iinc 3 1, 3) := by decide +kernel
theorem dX7_greatestOf_32 : decode cX7_greatestOf 32 = .ok (.goto (-23), 3) := by decide +kernel
theorem dX7_greatestOf_35 : decode cX7_greatestOf 35 = .ok (.iload_n 2, 1) := by decide +kernel
theorem dX7_greatestOf_36 : decode cX7_greatestOf 36 = .ok (.ireturn, 1) := by decide +kernel
theorem dX7_isOrder_0 : decode cX7_isOrder 0 = .ok (.iload_n 1, 1) := by decide +kernel
theorem dX7_isOrder_1 : decode cX7_isOrder 1 = .ok (.istore_n 2, 1) := by decide +kernel
theorem dX7_isOrder_2 : decode cX7_isOrder 2 = .ok (.iconst 0, 1) := by decide +kernel
theorem dX7_isOrder_3 : decode cX7_isOrder 3 = .ok (.istore_n 3, 1) := by decide +kernel
theorem dX7_isOrder_4 : decode cX7_isOrder 4 = .ok (.iconst 1, 1) := by decide +kernel
theorem dX7_isOrder_5 : decode cX7_isOrder 5 = .ok (.istore 4, 2) := by decide +kernel
theorem dX7_isOrder_7 : decode cX7_isOrder 7 = .ok (.iload 4, 2) := by decide +kernel
theorem dX7_isOrder_9 : decode cX7_isOrder 9 = .ok (.aload_n 0, 1) := by decide +kernel
theorem dX7_isOrder_10 : decode cX7_isOrder 10 = .ok (.getfield 15, 3) := by decide +kernel
theorem dX7_isOrder_13 : decode cX7_isOrder 13 = .ok (.if_icmp .ge 54, 3) := by decide +kernel
theorem dX7_isOrder_16 : decode cX7_isOrder 16 = .ok (.iload_n 2, 1) := by decide +kernel
theorem dX7_isOrder_17 : decode cX7_isOrder 17 = .ok (.bipush 10, 2) := by decide +kernel
theorem dX7_isOrder_19 : decode cX7_isOrder 19 = .ok (.irem, 1) := by decide +kernel
theorem dX7_isOrder_20 : decode cX7_isOrder 20 = .ok (.istore 5, 2) := by decide +kernel
theorem dX7_isOrder_22 : decode cX7_isOrder 22 = .ok (.iload 5, 2) := by decide +kernel
theorem dX7_isOrder_24 : decode cX7_isOrder 24 = .ok (.iconst 1, 1) := by decide +kernel
theorem dX7_isOrder_25 : decode cX7_isOrder 25 = .ok (.if_icmp .lt 22, 3) := by decide +kernel
theorem dX7_isOrder_28 : decode cX7_isOrder 28 = .ok (.iload 5, 2) := by decide +kernel
theorem dX7_isOrder_30 : decode cX7_isOrder 30 = .ok (.aload_n 0, 1) := by decide +kernel
theorem dX7_isOrder_31 : decode cX7_isOrder 31 = .ok (.getfield 15, 3) := by decide +kernel
theorem dX7_isOrder_34 : decode cX7_isOrder 34 = .ok (.if_icmp .ge 13, 3) := by decide +kernel
theorem dX7_isOrder_37 : decode cX7_isOrder 37 = .ok (.iload_n 3, 1) := by decide +kernel
theorem dX7_isOrder_38 : decode cX7_isOrder 38 = .ok (.iload 5, 2) := by decide +kernel
theorem dX7_isOrder_40 : decode cX7_isOrder 40 = .ok (.ishr, 1) := by decide +kernel
theorem dX7_isOrder_41 : decode cX7_isOrder 41 = .ok (.iconst 1, 1) := by decide +kernel
theorem dX7_isOrder_42 : decode cX7_isOrder 42 = .ok (.iand, 1) := by decide +kernel
theorem dX7_isOrder_43 : decode cX7_isOrder 43 = .ok (.iconst 1, 1) := by decide +kernel
theorem dX7_isOrder_44 : decode cX7_isOrder 44 = .ok (.if_icmp .ne 5, 3) := by decide +kernel
theorem dX7_isOrder_47 : decode cX7_isOrder 47 = .ok (.iconst 0, 1) := by decide +kernel
theorem dX7_isOrder_48 : decode cX7_isOrder 48 = .ok (.ireturn, 1) := by decide +kernel
theorem dX7_isOrder_49 : decode cX7_isOrder 49 = .ok (.iload_n 3, 1) := by decide +kernel
theorem dX7_isOrder_50 : decode cX7_isOrder 50 = .ok (.iconst 1, 1) := by decide +kernel
theorem dX7_isOrder_51 : decode cX7_isOrder 51 = .ok (.iload 5, 2) := by decide +kernel
theorem dX7_isOrder_53 : decode cX7_isOrder 53 = .ok (.ishl, 1) := by decide +kernel
theorem dX7_isOrder_54 : decode cX7_isOrder 54 = .ok (.ior, 1) := by decide +kernel
theorem dX7_isOrder_55 : decode cX7_isOrder 55 = .ok (.istore_n 3, 1) := by decide +kernel
theorem dX7_isOrder_56 : decode cX7_isOrder 56 = .ok (.iload_n 2, 1) := by decide +kernel
theorem dX7_isOrder_57 : decode cX7_isOrder 57 = .ok (.bipush 10, 2) := by decide +kernel
theorem dX7_isOrder_59 : decode cX7_isOrder 59 = .ok (.idiv, 1) := by decide +kernel
theorem dX7_isOrder_60 : decode cX7_isOrder 60 = .ok (.istore_n 2, 1) := by decide +kernel
theorem dX7_isOrder_61 : decode cX7_isOrder 61 = .ok (.iinc 4 1, 3) := by decide +kernel
theorem dX7_isOrder_64 : decode cX7_isOrder 64 = .ok (.goto (-57), 3) := by decide +kernel
theorem dX7_isOrder_67 : decode cX7_isOrder 67 = .ok (.iload_n 2, 1) := by decide +kernel
theorem dX7_isOrder_68 : decode cX7_isOrder 68 = .ok (.ifCond .ne 7, 3) := by decide +kernel
theorem dX7_isOrder_71 : decode cX7_isOrder 71 = .ok (.iconst 1, 1) := by decide +kernel
theorem dX7_isOrder_72 : decode cX7_isOrder 72 = .ok (.goto 4, 3) := by decide +kernel
theorem dX7_isOrder_75 : decode cX7_isOrder 75 = .ok (.iconst 0, 1) := by decide +kernel
theorem dX7_isOrder_76 : decode cX7_isOrder 76 = .ok (.ireturn, 1) := by decide +kernel
theorem dX7_tenthsOf_0 : decode cX7_tenthsOf 0 = .ok (.aload_n 0, 1) := by decide +kernel
theorem dX7_tenthsOf_1 : decode cX7_tenthsOf 1 = .ok (.getfield 71, 3) := by decide +kernel
theorem dX7_tenthsOf_4 : decode cX7_tenthsOf 4 = .ok (.iconst 1, 1) := by decide +kernel
theorem dX7_tenthsOf_5 : decode cX7_tenthsOf 5 = .ok (.if_icmp .lt 32, 3) := by decide +kernel
theorem dX7_tenthsOf_8 : decode cX7_tenthsOf 8 = .ok (.lload_n 1, 1) := by decide +kernel
theorem dX7_tenthsOf_9 : decode cX7_tenthsOf 9 = .ok (.aload_n 0, 1) := by decide +kernel
theorem dX7_tenthsOf_10 : decode cX7_tenthsOf 10 = .ok (.getfield 44, 3) := by decide +kernel
theorem dX7_tenthsOf_13 : decode cX7_tenthsOf 13 = .ok (.iconst 0, 1) := by decide +kernel
theorem dX7_tenthsOf_14 : decode cX7_tenthsOf 14 = .ok (.iaload, 1) := by decide +kernel
theorem dX7_tenthsOf_15 : decode cX7_tenthsOf 15 = .ok (.i2l, 1) := by decide +kernel
theorem dX7_tenthsOf_16 : decode cX7_tenthsOf 16 = .ok (.lcmp, 1) := by decide +kernel
theorem dX7_tenthsOf_17 : decode cX7_tenthsOf 17 = .ok (.ifCond .lt 20, 3) := by decide +kernel
theorem dX7_tenthsOf_20 : decode cX7_tenthsOf 20 = .ok (.lload_n 1, 1) := by decide +kernel
theorem dX7_tenthsOf_21 : decode cX7_tenthsOf 21 = .ok (.aload_n 0, 1) := by decide +kernel
theorem dX7_tenthsOf_22 : decode cX7_tenthsOf 22 = .ok (.getfield 44, 3) := by decide +kernel
theorem dX7_tenthsOf_25 : decode cX7_tenthsOf 25 = .ok (.aload_n 0, 1) := by decide +kernel
theorem dX7_tenthsOf_26 : decode cX7_tenthsOf 26 = .ok (.getfield 71, 3) := by decide +kernel
theorem dX7_tenthsOf_29 : decode cX7_tenthsOf 29 = .ok (.iconst 1, 1) := by decide +kernel
theorem dX7_tenthsOf_30 : decode cX7_tenthsOf 30 = .ok (.isub, 1) := by decide +kernel
theorem dX7_tenthsOf_31 : decode cX7_tenthsOf 31 = .ok (.iaload, 1) := by decide +kernel
theorem dX7_tenthsOf_32 : decode cX7_tenthsOf 32 = .ok (.i2l, 1) := by decide +kernel
theorem dX7_tenthsOf_33 : decode cX7_tenthsOf 33 = .ok (.lcmp, 1) := by decide +kernel
theorem dX7_tenthsOf_34 : decode cX7_tenthsOf 34 = .ok (.ifCond .le 5, 3) := by decide +kernel
theorem dX7_tenthsOf_37 : decode cX7_tenthsOf 37 = .ok (.iconst (-1), 1) := by decide +kernel
theorem dX7_tenthsOf_38 : decode cX7_tenthsOf 38 = .ok (.ireturn, 1) := by decide +kernel
theorem dX7_tenthsOf_39 : decode cX7_tenthsOf 39 = .ok (.iconst 0, 1) := by decide +kernel
theorem dX7_tenthsOf_40 : decode cX7_tenthsOf 40 = .ok (.istore_n 3, 1) := by decide +kernel
theorem dX7_tenthsOf_41 : decode cX7_tenthsOf 41 = .ok (.iload_n 3, 1) := by decide +kernel
theorem dX7_tenthsOf_42 : decode cX7_tenthsOf 42 = .ok (.iconst 1, 1) := by decide +kernel
theorem dX7_tenthsOf_43 : decode cX7_tenthsOf 43 = .ok (.iadd, 1) := by decide +kernel
theorem dX7_tenthsOf_44 : decode cX7_tenthsOf 44 = .ok (.aload_n 0, 1) := by decide +kernel
theorem dX7_tenthsOf_45 : decode cX7_tenthsOf 45 = .ok (.getfield 71, 3) := by decide +kernel
theorem dX7_tenthsOf_48 : decode cX7_tenthsOf 48 = .ok (.if_icmp .ge 23, 3) := by decide +kernel
theorem dX7_tenthsOf_51 : decode cX7_tenthsOf 51 = .ok (.aload_n 0, 1) := by decide +kernel
theorem dX7_tenthsOf_52 : decode cX7_tenthsOf 52 = .ok (.getfield 44, 3) := by decide +kernel
theorem dX7_tenthsOf_55 : decode cX7_tenthsOf 55 = .ok (.iload_n 3, 1) := by decide +kernel
theorem dX7_tenthsOf_56 : decode cX7_tenthsOf 56 = .ok (.iconst 1, 1) := by decide +kernel
theorem dX7_tenthsOf_57 : decode cX7_tenthsOf 57 = .ok (.iadd, 1) := by decide +kernel
theorem dX7_tenthsOf_58 : decode cX7_tenthsOf 58 = .ok (.iaload, 1) := by decide +kernel
theorem dX7_tenthsOf_59 : decode cX7_tenthsOf 59 = .ok (.i2l, 1) := by decide +kernel
theorem dX7_tenthsOf_60 : decode cX7_tenthsOf 60 = .ok (.lload_n 1, 1) := by decide +kernel
theorem dX7_tenthsOf_61 : decode cX7_tenthsOf 61 = .ok (.lcmp, 1) := by decide +kernel
theorem dX7_tenthsOf_62 : decode cX7_tenthsOf 62 = .ok (.ifCond .gt 9, 3) := by decide +kernel
theorem dX7_tenthsOf_65 : decode cX7_tenthsOf 65 = .ok (.iinc 3 1, 3) := by decide +kernel
theorem dX7_tenthsOf_68 : decode cX7_tenthsOf 68 = .ok (.goto (-27), 3) := by decide +kernel
theorem dX7_tenthsOf_71 : decode cX7_tenthsOf 71 = .ok (.iload_n 3, 1) := by decide +kernel
theorem dX7_tenthsOf_72 : decode cX7_tenthsOf 72 = .ok (.iconst 1, 1) := by decide +kernel
theorem dX7_tenthsOf_73 : decode cX7_tenthsOf 73 = .ok (.iadd, 1) := by decide +kernel
theorem dX7_tenthsOf_74 : decode cX7_tenthsOf 74 = .ok (.aload_n 0, 1) := by decide +kernel
theorem dX7_tenthsOf_75 : decode cX7_tenthsOf 75 = .ok (.getfield 71, 3) := by decide +kernel
theorem dX7_tenthsOf_78 : decode cX7_tenthsOf 78 = .ok (.if_icmp .lt 8, 3) := by decide +kernel
theorem dX7_tenthsOf_81 : decode cX7_tenthsOf 81 = .ok (.bipush 10, 2) := by decide +kernel
theorem dX7_tenthsOf_83 : decode cX7_tenthsOf 83 = .ok (.iload_n 3, 1) := by decide +kernel
theorem dX7_tenthsOf_84 : decode cX7_tenthsOf 84 = .ok (.imul, 1) := by decide +kernel
theorem dX7_tenthsOf_85 : decode cX7_tenthsOf 85 = .ok (.ireturn, 1) := by decide +kernel
theorem dX7_tenthsOf_86 : decode cX7_tenthsOf 86 = .ok (.aload_n 0, 1) := by decide +kernel
theorem dX7_tenthsOf_87 : decode cX7_tenthsOf 87 = .ok (.getfield 44, 3) := by decide +kernel
theorem dX7_tenthsOf_90 : decode cX7_tenthsOf 90 = .ok (.iload_n 3, 1) := by decide +kernel
theorem dX7_tenthsOf_91 : decode cX7_tenthsOf 91 = .ok (.iconst 1, 1) := by decide +kernel
theorem dX7_tenthsOf_92 : decode cX7_tenthsOf 92 = .ok (.iadd, 1) := by decide +kernel
theorem dX7_tenthsOf_93 : decode cX7_tenthsOf 93 = .ok (.iaload, 1) := by decide +kernel
theorem dX7_tenthsOf_94 : decode cX7_tenthsOf 94 = .ok (.aload_n 0, 1) := by decide +kernel
theorem dX7_tenthsOf_95 : decode cX7_tenthsOf 95 = .ok (.getfield 44, 3) := by decide +kernel
theorem dX7_tenthsOf_98 : decode cX7_tenthsOf 98 = .ok (.iload_n 3, 1) := by decide +kernel
theorem dX7_tenthsOf_99 : decode cX7_tenthsOf 99 = .ok (.iaload, 1) := by decide +kernel
theorem dX7_tenthsOf_100 : decode cX7_tenthsOf 100 = .ok (.isub, 1) := by decide +kernel
theorem dX7_tenthsOf_101 : decode cX7_tenthsOf 101 = .ok (.istore 4, 2) := by decide +kernel
theorem dX7_tenthsOf_103 : decode cX7_tenthsOf 103 = .ok (.iload 4, 2) := by decide +kernel
theorem dX7_tenthsOf_105 : decode cX7_tenthsOf 105 = .ok (.ifCond .gt 10, 3) := by decide +kernel
theorem dX7_tenthsOf_108 : decode cX7_tenthsOf 108 = .ok (.bipush 10, 2) := by decide +kernel
theorem dX7_tenthsOf_110 : decode cX7_tenthsOf 110 = .ok (.iload_n 3, 1) := by decide +kernel
theorem dX7_tenthsOf_111 : decode cX7_tenthsOf 111 = .ok (.imul, 1) := by decide +kernel
theorem dX7_tenthsOf_112 : decode cX7_tenthsOf 112 = .ok (.goto 26, 3) := by decide +kernel
theorem dX7_tenthsOf_115 : decode cX7_tenthsOf 115 = .ok (.bipush 10, 2) := by decide +kernel
theorem dX7_tenthsOf_117 : decode cX7_tenthsOf 117 = .ok (.iload_n 3, 1) := by decide +kernel
theorem dX7_tenthsOf_118 : decode cX7_tenthsOf 118 = .ok (.imul, 1) := by decide +kernel
theorem dX7_tenthsOf_119 : decode cX7_tenthsOf 119 = .ok (.ldc2_w 92, 3) := by decide +kernel
theorem dX7_tenthsOf_122 : decode cX7_tenthsOf 122 = .ok (.lload_n 1, 1) := by decide +kernel
theorem dX7_tenthsOf_123 : decode cX7_tenthsOf 123 = .ok (.aload_n 0, 1) := by decide +kernel
theorem dX7_tenthsOf_124 : decode cX7_tenthsOf 124 = .ok (.getfield 44, 3) := by decide +kernel
theorem dX7_tenthsOf_127 : decode cX7_tenthsOf 127 = .ok (.iload_n 3, 1) := by decide +kernel
theorem dX7_tenthsOf_128 : decode cX7_tenthsOf 128 = .ok (.iaload, 1) := by decide +kernel
theorem dX7_tenthsOf_129 : decode cX7_tenthsOf 129 = .ok (.i2l, 1) := by decide +kernel
theorem dX7_tenthsOf_130 : decode cX7_tenthsOf 130 = .ok (.lsub, 1) := by decide +kernel
theorem dX7_tenthsOf_131 : decode cX7_tenthsOf 131 = .ok (.lmul, 1) := by decide +kernel
theorem dX7_tenthsOf_132 : decode cX7_tenthsOf 132 = .ok (.iload 4, 2) := by decide +kernel
theorem dX7_tenthsOf_134 : decode cX7_tenthsOf 134 = .ok (.i2l, 1) := by decide +kernel
theorem dX7_tenthsOf_135 : decode cX7_tenthsOf 135 = .ok (.ldiv, 1) := by decide +kernel
theorem dX7_tenthsOf_136 : decode cX7_tenthsOf 136 = .ok (.l2i, 1) := by decide +kernel
theorem dX7_tenthsOf_137 : decode cX7_tenthsOf 137 = .ok (.iadd, 1) := by decide +kernel
theorem dX7_tenthsOf_138 : decode cX7_tenthsOf 138 = .ok (.ireturn, 1) := by decide +kernel
theorem dX7_numberOfValue_0 : decode cX7_numberOfValue 0 = .ok (.iload_n 0, 1) := by decide +kernel
theorem dX7_numberOfValue_1 : decode cX7_numberOfValue 1 = .ok (.iconst 1, 1) := by decide +kernel
theorem dX7_numberOfValue_2 : decode cX7_numberOfValue 2 = .ok (.if_icmp .ne 7, 3) := by decide +kernel
theorem dX7_numberOfValue_5 : decode cX7_numberOfValue 5 = .ok (.iload_n 1, 1) := by decide +kernel
theorem dX7_numberOfValue_6 : decode cX7_numberOfValue 6 = .ok (.iload_n 1, 1) := by decide +kernel
theorem dX7_numberOfValue_7 : decode cX7_numberOfValue 7 = .ok (.imul, 1) := by decide +kernel
theorem dX7_numberOfValue_8 : decode cX7_numberOfValue 8 = .ok (.ireturn, 1) := by decide +kernel
theorem dX7_numberOfValue_9 : decode cX7_numberOfValue 9 = .ok (.iload_n 0, 1) := by decide +kernel
theorem dX7_numberOfValue_10 : decode cX7_numberOfValue 10 = .ok (.iconst 2, 1) := by decide +kernel
theorem dX7_numberOfValue_11 : decode cX7_numberOfValue 11 = .ok (.if_icmp .ne 15, 3) := by decide +kernel
theorem dX7_numberOfValue_14 : decode cX7_numberOfValue 14 = .ok (.ldc2_w 94, 3) := by decide +kernel
theorem dX7_numberOfValue_17 : decode cX7_numberOfValue 17 = .ok (.iload_n 1, 1) := by decide +kernel
theorem dX7_numberOfValue_18 : decode cX7_numberOfValue 18 = .ok (.i2l, 1) := by decide +kernel
theorem dX7_numberOfValue_19 : decode cX7_numberOfValue 19 = .ok (.invokestatic 96, 3) := by decide +kernel
theorem dX7_numberOfValue_22 : decode cX7_numberOfValue 22 = .ok (.l2i, 1) := by decide +kernel
theorem dX7_numberOfValue_23 : decode cX7_numberOfValue 23 = .ok (.goto 4, 3) := by decide +kernel
theorem dX7_numberOfValue_26 : decode cX7_numberOfValue 26 = .ok (.iload_n 1, 1) := by decide +kernel
theorem dX7_numberOfValue_27 : decode cX7_numberOfValue 27 = .ok (.ireturn, 1) := by decide +kernel
theorem dX7_leastValue_0 : decode cX7_leastValue 0 = .ok (.iload_n 0, 1) := by decide +kernel
theorem dX7_leastValue_1 : decode cX7_leastValue 1 = .ok (.iconst 1, 1) := by decide +kernel
theorem dX7_leastValue_2 : decode cX7_leastValue 2 = .ok (.if_icmp .ne 5, 3) := by decide +kernel
theorem dX7_leastValue_5 : decode cX7_leastValue 5 = .ok (.iconst 0, 1) := by decide +kernel
theorem dX7_leastValue_6 : decode cX7_leastValue 6 = .ok (.ireturn, 1) := by decide +kernel
theorem dX7_leastValue_7 : decode cX7_leastValue 7 = .ok (.iload_n 0, 1) := by decide +kernel
theorem dX7_leastValue_8 : decode cX7_leastValue 8 = .ok (.iconst 2, 1) := by decide +kernel
theorem dX7_leastValue_9 : decode cX7_leastValue 9 = .ok (.if_icmp .ne 7, 3) := by decide +kernel
theorem dX7_leastValue_12 : decode cX7_leastValue 12 = .ok (.iconst 1, 1) := by decide +kernel
theorem dX7_leastValue_13 : decode cX7_leastValue 13 = .ok (.goto 6, 3) := by decide +kernel
theorem dX7_leastValue_16 : decode cX7_leastValue 16 = .ok (.sipush (-999), 3) := by decide +kernel
theorem dX7_leastValue_19 : decode cX7_leastValue 19 = .ok (.ireturn, 1) := by decide +kernel
theorem dX7_greatestValue_0 : decode cX7_greatestValue 0 = .ok (.iload_n 0, 1) := by decide +kernel
theorem dX7_greatestValue_1 : decode cX7_greatestValue 1 = .ok (.iconst 1, 1) := by decide +kernel
theorem dX7_greatestValue_2 : decode cX7_greatestValue 2 = .ok (.if_icmp .ne 8, 3) := by decide +kernel
theorem dX7_greatestValue_5 : decode cX7_greatestValue 5 = .ok (.bipush 99, 2) := by decide +kernel
theorem dX7_greatestValue_7 : decode cX7_greatestValue 7 = .ok (.goto 6, 3) := by decide +kernel
theorem dX7_greatestValue_10 : decode cX7_greatestValue 10 = .ok (.sipush 999, 3) := by decide +kernel
theorem dX7_greatestValue_13 : decode cX7_greatestValue 13 = .ok (.ireturn, 1) := by decide +kernel
theorem dX8_init_0 : decode cX8_init 0 = .ok (.aload_n 0, 1) := by decide +kernel
theorem dX8_init_1 : decode cX8_init 1 = .ok (.invokespecial 3, 3) := by decide +kernel
theorem dX8_init_4 : decode cX8_init 4 = .ok (.aload_n 0, 1) := by decide +kernel
theorem dX8_init_5 : decode cX8_init 5 = .ok (.bipush 120, 2) := by decide +kernel
theorem dX8_init_7 : decode cX8_init 7 = .ok (.newarray .byte, 2) := by decide +kernel
theorem dX8_init_9 : decode cX8_init 9 = .ok (.putfield 9, 3) := by decide +kernel
theorem dX8_init_12 : decode cX8_init 12 = .ok (.return_, 1) := by decide +kernel
theorem dX8_add_0 : decode cX8_add 0 = .ok (.bipush 24, 2) := by decide +kernel
theorem dX8_add_2 : decode cX8_add 2 = .ok (.istore_n 2, 1) := by decide +kernel
theorem dX8_add_3 : decode cX8_add 3 = .ok (.iload_n 2, 1) := by decide +kernel
theorem dX8_add_4 : decode cX8_add 4 = .ok (.ifCond .lt 44, 3) := by decide +kernel
theorem dX8_add_7 : decode cX8_add 7 = .ok (.aload_n 0, 1) := by decide +kernel
theorem dX8_add_8 : decode cX8_add 8 = .ok (.getfield 15, 3) := by decide +kernel
theorem dX8_add_11 : decode cX8_add 11 = .ok (.aload_n 0, 1) := by decide +kernel
theorem dX8_add_12 : decode cX8_add 12 = .ok (.getfield 9, 3) := by decide +kernel
theorem dX8_add_15 : decode cX8_add 15 = .ok (.arraylength, 1) := by decide +kernel
theorem dX8_add_16 : decode cX8_add 16 = .ok (.if_icmp .ge 26, 3) := by decide +kernel
theorem dX8_add_19 : decode cX8_add 19 = .ok (.aload_n 0, 1) := by decide +kernel
theorem dX8_add_20 : decode cX8_add 20 = .ok (.getfield 9, 3) := by decide +kernel
theorem dX8_add_23 : decode cX8_add 23 = .ok (.aload_n 0, 1) := by decide +kernel
theorem dX8_add_24 : decode cX8_add 24 = .ok (.getfield 15, 3) := by decide +kernel
theorem dX8_add_27 : decode cX8_add 27 = .ok (.iload_n 1, 1) := by decide +kernel
theorem dX8_add_28 : decode cX8_add 28 = .ok (.iload_n 2, 1) := by decide +kernel
theorem dX8_add_29 : decode cX8_add 29 = .ok (.iushr, 1) := by decide +kernel
theorem dX8_add_30 : decode cX8_add 30 = .ok (.i2b, 1) := by decide +kernel
theorem dX8_add_31 : decode cX8_add 31 = .ok (.bastore, 1) := by decide +kernel
theorem dX8_add_32 : decode cX8_add 32 = .ok (.aload_n 0, 1) := by decide +kernel
theorem dX8_add_33 : decode cX8_add 33 = .ok (.dup, 1) := by decide +kernel
theorem dX8_add_34 : decode cX8_add 34 = .ok (.getfield 15, 3) := by decide +kernel
theorem dX8_add_37 : decode cX8_add 37 = .ok (.iconst 1, 1) := by decide +kernel
theorem dX8_add_38 : decode cX8_add 38 = .ok (.iadd, 1) := by decide +kernel
theorem dX8_add_39 : decode cX8_add 39 = .ok (.putfield 15, 3) := by decide +kernel
theorem dX8_add_42 : decode cX8_add 42 = .ok (.iinc 2 (-8), 3) := by decide +kernel
theorem dX8_add_45 : decode cX8_add 45 = .ok (.goto (-42), 3) := by decide +kernel
theorem dX8_add_48 : decode cX8_add 48 = .ok (.return_, 1) := by decide +kernel
theorem dX8_byteAt_0 : decode cX8_byteAt 0 = .ok (.iload_n 1, 1) := by decide +kernel
theorem dX8_byteAt_1 : decode cX8_byteAt 1 = .ok (.ifCond .lt 24, 3) := by decide +kernel
theorem dX8_byteAt_4 : decode cX8_byteAt 4 = .ok (.iload_n 1, 1) := by decide +kernel
theorem dX8_byteAt_5 : decode cX8_byteAt 5 = .ok (.aload_n 0, 1) := by decide +kernel
theorem dX8_byteAt_6 : decode cX8_byteAt 6 = .ok (.getfield 15, 3) := by decide +kernel
theorem dX8_byteAt_9 : decode cX8_byteAt 9 = .ok (.if_icmp .ge 16, 3) := by decide +kernel
theorem dX8_byteAt_12 : decode cX8_byteAt 12 = .ok (.aload_n 0, 1) := by decide +kernel
theorem dX8_byteAt_13 : decode cX8_byteAt 13 = .ok (.getfield 9, 3) := by decide +kernel
theorem dX8_byteAt_16 : decode cX8_byteAt 16 = .ok (.iload_n 1, 1) := by decide +kernel
theorem dX8_byteAt_17 : decode cX8_byteAt 17 = .ok (.baload, 1) := by decide +kernel
theorem dX8_byteAt_18 : decode cX8_byteAt 18 = .ok (.sipush 255, 3) := by decide +kernel
theorem dX8_byteAt_21 : decode cX8_byteAt 21 = .ok (.iand, 1) := by decide +kernel
theorem dX8_byteAt_22 : decode cX8_byteAt 22 = .ok (.goto 4, 3) := by decide +kernel
theorem dX8_byteAt_25 : decode cX8_byteAt 25 = .ok (.iconst 0, 1) := by decide +kernel
theorem dX8_byteAt_26 : decode cX8_byteAt 26 = .ok (.ireturn, 1) := by decide +kernel
theorem dX9_init_0 : decode cX9_init 0 = .ok (.aload_n 0, 1) := by decide +kernel
theorem dX9_init_1 : decode cX9_init 1 = .ok (.invokespecial 1, 3) := by decide +kernel
theorem dX9_init_4 : decode cX9_init 4 = .ok (.return_, 1) := by decide +kernel
theorem dX9_along_0 : decode cX9_along 0 = .ok (.aload_n 0, 1) := by decide +kernel
theorem dX9_along_1 : decode cX9_along 1 = .ok (.aload_n 2, 1) := by decide +kernel
theorem dX9_along_2 : decode cX9_along 2 = .ok (.arraylength, 1) := by decide +kernel
theorem dX9_along_3 : decode cX9_along 3 = .ok (.ifCond .le 9, 3) := by decide +kernel
theorem dX9_along_6 : decode cX9_along 6 = .ok (.aload_n 2, 1) := by decide +kernel
theorem dX9_along_7 : decode cX9_along 7 = .ok (.iconst 0, 1) := by decide +kernel
theorem dX9_along_8 : decode cX9_along 8 = .ok (.laload, 1) := by decide +kernel
theorem dX9_along_9 : decode cX9_along 9 = .ok (.goto 4, 3) := by decide +kernel
theorem dX9_along_12 : decode cX9_along 12 = .ok (.lconst 0, 1) := by decide +kernel
theorem dX9_along_13 : decode cX9_along 13 = .ok (.putfield 7, 3) := by decide +kernel
theorem dX9_along_16 : decode cX9_along 16 = .ok (.iconst 0, 1) := by decide +kernel
theorem dX9_along_17 : decode cX9_along 17 = .ok (.istore 4, 2) := by decide +kernel
theorem dX9_along_19 : decode cX9_along 19 = .ok (.iload 4, 2) := by decide +kernel
theorem dX9_along_21 : decode cX9_along 21 = .ok (.iload_n 3, 1) := by decide +kernel
theorem dX9_along_22 : decode cX9_along 22 = .ok (.if_icmp .gt 116, 3) := by decide +kernel
theorem dX9_along_25 : decode cX9_along 25 = .ok (.iload 4, 2) := by decide +kernel
theorem dX9_along_27 : decode cX9_along 27 = .ok (.aload_n 1, 1) := by decide +kernel
theorem dX9_along_28 : decode cX9_along 28 = .ok (.getfield 13, 3) := by decide +kernel
theorem dX9_along_31 : decode cX9_along 31 = .ok (.if_icmp .ge 107, 3) := by decide +kernel
theorem dX9_along_34 : decode cX9_along 34 = .ok (.iload 4, 2) := by decide +kernel
theorem dX9_along_36 : decode cX9_along 36 = .ok (.iconst 1, 1) := by decide +kernel
theorem dX9_along_37 : decode cX9_along 37 = .ok (.iadd, 1) := by decide +kernel
theorem dX9_along_38 : decode cX9_along 38 = .ok (.aload_n 2, 1) := by decide +kernel
theorem dX9_along_39 : decode cX9_along 39 = .ok (.arraylength, 1) := by decide +kernel
theorem dX9_along_40 : decode cX9_along 40 = .ok (.if_icmp .ge 98, 3) := by decide +kernel
theorem dX9_along_43 : decode cX9_along 43 = .ok (.aload_n 0, 1) := by decide +kernel
theorem dX9_along_44 : decode cX9_along 44 = .ok (.aload_n 1, 1) := by decide +kernel
theorem dX9_along_45 : decode cX9_along 45 = .ok (.getfield 19, 3) := by decide +kernel
theorem dX9_along_48 : decode cX9_along 48 = .ok (.aload_n 1, 1) := by decide +kernel
theorem dX9_along_49 : decode cX9_along 49 = .ok (.getfield 23, 3) := by decide +kernel
theorem dX9_along_52 : decode cX9_along 52 = .ok (.iload 4, 2) := by decide +kernel
theorem dX9_along_54 : decode cX9_along 54 = .ok (.iaload, 1) := by decide +kernel
theorem dX9_along_55 : decode cX9_along 55 = .ok (.i2l, 1) := by decide +kernel
theorem dX9_along_56 : decode cX9_along 56 = .ok (.aload_n 0, 1) := by decide +kernel
theorem dX9_along_57 : decode cX9_along 57 = .ok (.getfield 7, 3) := by decide +kernel
theorem dX9_along_60 : decode cX9_along 60 = .ok (.lmul, 1) := by decide +kernel
theorem dX9_along_61 : decode cX9_along 61 = .ok (.invokevirtual 27, 3) := by decide +kernel
theorem dX9_along_64 : decode cX9_along 64 = .ok (.putfield 33, 3) := by decide +kernel
theorem dX9_along_67 : decode cX9_along 67 = .ok (.aload_n 0, 1) := by decide +kernel
theorem dX9_along_68 : decode cX9_along 68 = .ok (.aload_n 1, 1) := by decide +kernel
theorem dX9_along_69 : decode cX9_along 69 = .ok (.getfield 19, 3) := by decide +kernel
theorem dX9_along_72 : decode cX9_along 72 = .ok (.aload_n 1, 1) := by decide +kernel
theorem dX9_along_73 : decode cX9_along 73 = .ok (.getfield 35, 3) := by decide +kernel
theorem dX9_along_76 : decode cX9_along 76 = .ok (.iload 4, 2) := by decide +kernel
theorem dX9_along_78 : decode cX9_along 78 = .ok (.iaload, 1) := by decide +kernel
theorem dX9_along_79 : decode cX9_along 79 = .ok (.i2l, 1) := by decide +kernel
theorem dX9_along_80 : decode cX9_along 80 = .ok (.aload_n 2, 1) := by decide +kernel
theorem dX9_along_81 : decode cX9_along 81 = .ok (.iload 4, 2) := by decide +kernel
theorem dX9_along_83 : decode cX9_along 83 = .ok (.iconst 1, 1) := by decide +kernel
theorem dX9_along_84 : decode cX9_along 84 = .ok (.iadd, 1) := by decide +kernel
theorem dX9_along_85 : decode cX9_along 85 = .ok (.laload, 1) := by decide +kernel
theorem dX9_along_86 : decode cX9_along 86 = .ok (.lmul, 1) := by decide +kernel
theorem dX9_along_87 : decode cX9_along 87 = .ok (.invokevirtual 27, 3) := by decide +kernel
theorem dX9_along_90 : decode cX9_along 90 = .ok (.putfield 38, 3) := by decide +kernel
theorem dX9_along_93 : decode cX9_along 93 = .ok (.aload_n 0, 1) := by decide +kernel
theorem dX9_along_94 : decode cX9_along 94 = .ok (.aload_n 1, 1) := by decide +kernel
theorem dX9_along_95 : decode cX9_along 95 = .ok (.iload 4, 2) := by decide +kernel
theorem dX9_along_97 : decode cX9_along 97 = .ok (.aload_n 0, 1) := by decide +kernel
theorem dX9_along_98 : decode cX9_along 98 = .ok (.getfield 33, 3) := by decide +kernel
theorem dX9_along_101 : decode cX9_along 101 = .ok (.aload_n 0, 1) := by decide +kernel
theorem dX9_along_102 : decode cX9_along 102 = .ok (.getfield 38, 3) := by decide +kernel
theorem dX9_along_105 : decode cX9_along 105 = .ok (.invokevirtual 40, 3) := by decide +kernel
theorem dX9_along_108 : decode cX9_along 108 = .ok (.putfield 44, 3) := by decide +kernel
theorem dX9_along_111 : decode cX9_along 111 = .ok (.aload_n 0, 1) := by decide +kernel
theorem dX9_along_112 : decode cX9_along 112 = .ok (.aload_n 1, 1) := by decide +kernel
theorem dX9_along_113 : decode cX9_along 113 = .ok (.iload 4, 2) := by decide +kernel
theorem dX9_along_115 : decode cX9_along 115 = .ok (.aload_n 1, 1) := by decide +kernel
theorem dX9_along_116 : decode cX9_along 116 = .ok (.getfield 19, 3) := by decide +kernel
theorem dX9_along_119 : decode cX9_along 119 = .ok (.aload_n 0, 1) := by decide +kernel
theorem dX9_along_120 : decode cX9_along 120 = .ok (.getfield 44, 3) := by decide +kernel
theorem dX9_along_123 : decode cX9_along 123 = .ok (.invokevirtual 46, 3) := by decide +kernel
theorem dX9_along_126 : decode cX9_along 126 = .ok (.invokevirtual 49, 3) := by decide +kernel
theorem dX9_along_129 : decode cX9_along 129 = .ok (.putfield 7, 3) := by decide +kernel
theorem dX9_along_132 : decode cX9_along 132 = .ok (.iinc 4 1, 3) := by decide +kernel
theorem dX9_along_135 : decode cX9_along 135 = .ok (.goto (-116), 3) := by decide +kernel
theorem dX9_along_138 : decode cX9_along 138 = .ok (.return_, 1) := by decide +kernel
theorem dJ6_bitCount_0f7a4_0 : decode cJ6_bitCount_0f7a4 0 = .ok (.iload_n 0, 1) := by decide +kernel
theorem dJ6_bitCount_0f7a4_1 : decode cJ6_bitCount_0f7a4 1 = .ok (.iload_n 0, 1) := by decide +kernel
theorem dJ6_bitCount_0f7a4_2 : decode cJ6_bitCount_0f7a4 2 = .ok (.iconst 1, 1) := by decide +kernel
theorem dJ6_bitCount_0f7a4_3 : decode cJ6_bitCount_0f7a4 3 = .ok (.iushr, 1) := by decide +kernel
theorem dJ6_bitCount_0f7a4_4 : decode cJ6_bitCount_0f7a4 4 = .ok (.ldc_w 265, 3) := by decide +kernel
theorem dJ6_bitCount_0f7a4_7 : decode cJ6_bitCount_0f7a4 7 = .ok (.iand, 1) := by decide +kernel
theorem dJ6_bitCount_0f7a4_8 : decode cJ6_bitCount_0f7a4 8 = .ok (.isub, 1) := by decide +kernel
theorem dJ6_bitCount_0f7a4_9 : decode cJ6_bitCount_0f7a4 9 = .ok (.istore_n 0, 1) := by decide +kernel
theorem dJ6_bitCount_0f7a4_10 : decode cJ6_bitCount_0f7a4 10 = .ok (.iload_n 0, 1) := by decide +kernel
theorem dJ6_bitCount_0f7a4_11 : decode cJ6_bitCount_0f7a4 11 = .ok (.ldc_w 266, 3) := by decide +kernel
theorem dJ6_bitCount_0f7a4_14 : decode cJ6_bitCount_0f7a4 14 = .ok (.iand, 1) := by decide +kernel
theorem dJ6_bitCount_0f7a4_15 : decode cJ6_bitCount_0f7a4 15 = .ok (.iload_n 0, 1) := by decide +kernel
theorem dJ6_bitCount_0f7a4_16 : decode cJ6_bitCount_0f7a4 16 = .ok (.iconst 2, 1) := by decide +kernel
theorem dJ6_bitCount_0f7a4_17 : decode cJ6_bitCount_0f7a4 17 = .ok (.iushr, 1) := by decide +kernel
theorem dJ6_bitCount_0f7a4_18 : decode cJ6_bitCount_0f7a4 18 = .ok (.ldc_w 266, 3) := by decide +kernel
theorem dJ6_bitCount_0f7a4_21 : decode cJ6_bitCount_0f7a4 21 = .ok (.iand, 1) := by decide +kernel
theorem dJ6_bitCount_0f7a4_22 : decode cJ6_bitCount_0f7a4 22 = .ok (.iadd, 1) := by decide +kernel
theorem dJ6_bitCount_0f7a4_23 : decode cJ6_bitCount_0f7a4 23 = .ok (.istore_n 0, 1) := by decide +kernel
theorem dJ6_bitCount_0f7a4_24 : decode cJ6_bitCount_0f7a4 24 = .ok (.iload_n 0, 1) := by decide +kernel
theorem dJ6_bitCount_0f7a4_25 : decode cJ6_bitCount_0f7a4 25 = .ok (.iload_n 0, 1) := by decide +kernel
theorem dJ6_bitCount_0f7a4_26 : decode cJ6_bitCount_0f7a4 26 = .ok (.iconst 4, 1) := by decide +kernel
theorem dJ6_bitCount_0f7a4_27 : decode cJ6_bitCount_0f7a4 27 = .ok (.iushr, 1) := by decide +kernel
theorem dJ6_bitCount_0f7a4_28 : decode cJ6_bitCount_0f7a4 28 = .ok (.iadd, 1) := by decide +kernel
theorem dJ6_bitCount_0f7a4_29 : decode cJ6_bitCount_0f7a4 29 = .ok (.ldc_w 267, 3) := by decide +kernel
theorem dJ6_bitCount_0f7a4_32 : decode cJ6_bitCount_0f7a4 32 = .ok (.iand, 1) := by decide +kernel
theorem dJ6_bitCount_0f7a4_33 : decode cJ6_bitCount_0f7a4 33 = .ok (.istore_n 0, 1) := by decide +kernel
theorem dJ6_bitCount_0f7a4_34 : decode cJ6_bitCount_0f7a4 34 = .ok (.iload_n 0, 1) := by decide +kernel
theorem dJ6_bitCount_0f7a4_35 : decode cJ6_bitCount_0f7a4 35 = .ok (.iload_n 0, 1) := by decide +kernel
theorem dJ6_bitCount_0f7a4_36 : decode cJ6_bitCount_0f7a4 36 = .ok (.bipush 8, 2) := by decide +kernel
theorem dJ6_bitCount_0f7a4_38 : decode cJ6_bitCount_0f7a4 38 = .ok (.iushr, 1) := by decide +kernel
theorem dJ6_bitCount_0f7a4_39 : decode cJ6_bitCount_0f7a4 39 = .ok (.iadd, 1) := by decide +kernel
theorem dJ6_bitCount_0f7a4_40 : decode cJ6_bitCount_0f7a4 40 = .ok (.istore_n 0, 1) := by decide +kernel
theorem dJ6_bitCount_0f7a4_41 : decode cJ6_bitCount_0f7a4 41 = .ok (.iload_n 0, 1) := by decide +kernel
theorem dJ6_bitCount_0f7a4_42 : decode cJ6_bitCount_0f7a4 42 = .ok (.iload_n 0, 1) := by decide +kernel
theorem dJ6_bitCount_0f7a4_43 : decode cJ6_bitCount_0f7a4 43 = .ok (.bipush 16, 2) := by decide +kernel
theorem dJ6_bitCount_0f7a4_45 : decode cJ6_bitCount_0f7a4 45 = .ok (.iushr, 1) := by decide +kernel
theorem dJ6_bitCount_0f7a4_46 : decode cJ6_bitCount_0f7a4 46 = .ok (.iadd, 1) := by decide +kernel
theorem dJ6_bitCount_0f7a4_47 : decode cJ6_bitCount_0f7a4 47 = .ok (.istore_n 0, 1) := by decide +kernel
theorem dJ6_bitCount_0f7a4_48 : decode cJ6_bitCount_0f7a4 48 = .ok (.iload_n 0, 1) := by decide +kernel
theorem dJ6_bitCount_0f7a4_49 : decode cJ6_bitCount_0f7a4 49 = .ok (.bipush 63, 2) := by decide +kernel
theorem dJ6_bitCount_0f7a4_51 : decode cJ6_bitCount_0f7a4 51 = .ok (.iand, 1) := by decide +kernel
theorem dJ6_bitCount_0f7a4_52 : decode cJ6_bitCount_0f7a4 52 = .ok (.ireturn, 1) := by decide +kernel
theorem dJ7_fill_53178_0 : decode cJ7_fill_53178 0 = .ok (.iconst 0, 1) := by decide +kernel
theorem dJ7_fill_53178_1 : decode cJ7_fill_53178 1 = .ok (.istore_n 2, 1) := by decide +kernel
theorem dJ7_fill_53178_2 : decode cJ7_fill_53178 2 = .ok (.aload_n 0, 1) := by decide +kernel
theorem dJ7_fill_53178_3 : decode cJ7_fill_53178 3 = .ok (.arraylength, 1) := by decide +kernel
theorem dJ7_fill_53178_4 : decode cJ7_fill_53178 4 = .ok (.istore_n 3, 1) := by decide +kernel
theorem dJ7_fill_53178_5 : decode cJ7_fill_53178 5 = .ok (.iload_n 2, 1) := by decide +kernel
theorem dJ7_fill_53178_6 : decode cJ7_fill_53178 6 = .ok (.iload_n 3, 1) := by decide +kernel
theorem dJ7_fill_53178_7 : decode cJ7_fill_53178 7 = .ok (.if_icmp .ge 13, 3) := by decide +kernel
theorem dJ7_fill_53178_10 : decode cJ7_fill_53178 10 = .ok (.aload_n 0, 1) := by decide +kernel
theorem dJ7_fill_53178_11 : decode cJ7_fill_53178 11 = .ok (.iload_n 2, 1) := by decide +kernel
theorem dJ7_fill_53178_12 : decode cJ7_fill_53178 12 = .ok (.iload_n 1, 1) := by decide +kernel
theorem dJ7_fill_53178_13 : decode cJ7_fill_53178 13 = .ok (.iastore, 1) := by decide +kernel
theorem dJ7_fill_53178_14 : decode cJ7_fill_53178 14 = .ok (.iinc 2 1, 3) := by decide +kernel
theorem dJ7_fill_53178_17 : decode cJ7_fill_53178 17 = .ok (.goto (-12), 3) := by decide +kernel
theorem dJ7_fill_53178_20 : decode cJ7_fill_53178 20 = .ok (.return_, 1) := by decide +kernel
theorem dJ9_floorDiv_f86c9_0 : decode cJ9_floorDiv_f86c9 0 = .ok (.lload_n 0, 1) := by decide +kernel
theorem dJ9_floorDiv_f86c9_1 : decode cJ9_floorDiv_f86c9 1 = .ok (.lload_n 2, 1) := by decide +kernel
theorem dJ9_floorDiv_f86c9_2 : decode cJ9_floorDiv_f86c9 2 = .ok (.ldiv, 1) := by decide +kernel
theorem dJ9_floorDiv_f86c9_3 : decode cJ9_floorDiv_f86c9 3 = .ok (.lstore 4, 2) := by decide +kernel
theorem dJ9_floorDiv_f86c9_5 : decode cJ9_floorDiv_f86c9 5 = .ok (.lload_n 0, 1) := by decide +kernel
theorem dJ9_floorDiv_f86c9_6 : decode cJ9_floorDiv_f86c9 6 = .ok (.lload_n 2, 1) := by decide +kernel
theorem dJ9_floorDiv_f86c9_7 : decode cJ9_floorDiv_f86c9 7 = .ok (.lxor, 1) := by decide +kernel
theorem dJ9_floorDiv_f86c9_8 : decode cJ9_floorDiv_f86c9 8 = .ok (.lconst 0, 1) := by decide +kernel
theorem dJ9_floorDiv_f86c9_9 : decode cJ9_floorDiv_f86c9 9 = .ok (.lcmp, 1) := by decide +kernel
theorem dJ9_floorDiv_f86c9_10 : decode cJ9_floorDiv_f86c9 10 = .ok (.ifCond .ge 17, 3) := by decide +kernel
theorem dJ9_floorDiv_f86c9_13 : decode cJ9_floorDiv_f86c9 13 = .ok (.lload 4, 2) := by decide +kernel
theorem dJ9_floorDiv_f86c9_15 : decode cJ9_floorDiv_f86c9 15 = .ok (.lload_n 2, 1) := by decide +kernel
theorem dJ9_floorDiv_f86c9_16 : decode cJ9_floorDiv_f86c9 16 = .ok (.lmul, 1) := by decide +kernel
theorem dJ9_floorDiv_f86c9_17 : decode cJ9_floorDiv_f86c9 17 = .ok (.lload_n 0, 1) := by decide +kernel
theorem dJ9_floorDiv_f86c9_18 : decode cJ9_floorDiv_f86c9 18 = .ok (.lcmp, 1) := by decide +kernel
theorem dJ9_floorDiv_f86c9_19 : decode cJ9_floorDiv_f86c9 19 = .ok (.ifCond .eq 8, 3) := by decide +kernel
theorem dJ9_floorDiv_f86c9_22 : decode cJ9_floorDiv_f86c9 22 = .ok (.lload 4, 2) := by decide +kernel
theorem dJ9_floorDiv_f86c9_24 : decode cJ9_floorDiv_f86c9 24 = .ok (.lconst 1, 1) := by decide +kernel
theorem dJ9_floorDiv_f86c9_25 : decode cJ9_floorDiv_f86c9 25 = .ok (.lsub, 1) := by decide +kernel
theorem dJ9_floorDiv_f86c9_26 : decode cJ9_floorDiv_f86c9 26 = .ok (.lreturn, 1) := by decide +kernel
theorem dJ9_floorDiv_f86c9_27 : decode cJ9_floorDiv_f86c9 27 = .ok (.lload 4, 2) := by decide +kernel
theorem dJ9_floorDiv_f86c9_29 : decode cJ9_floorDiv_f86c9 29 = .ok (.lreturn, 1) := by decide +kernel
theorem dJ9_abs_0f7a4_0 : decode cJ9_abs_0f7a4 0 = .ok (.iload_n 0, 1) := by decide +kernel
theorem dJ9_abs_0f7a4_1 : decode cJ9_abs_0f7a4 1 = .ok (.ifCond .ge 8, 3) := by decide +kernel
theorem dJ9_abs_0f7a4_4 : decode cJ9_abs_0f7a4 4 = .ok (.iload_n 0, 1) := by decide +kernel
theorem dJ9_abs_0f7a4_5 : decode cJ9_abs_0f7a4 5 = .ok (.ineg, 1) := by decide +kernel
theorem dJ9_abs_0f7a4_6 : decode cJ9_abs_0f7a4 6 = .ok (.goto 4, 3) := by decide +kernel
theorem dJ9_abs_0f7a4_9 : decode cJ9_abs_0f7a4 9 = .ok (.iload_n 0, 1) := by decide +kernel
theorem dJ9_abs_0f7a4_10 : decode cJ9_abs_0f7a4 10 = .ok (.ireturn, 1) := by decide +kernel
theorem dJ9_abs_067f4_0 : decode cJ9_abs_067f4 0 = .ok (.lload_n 0, 1) := by decide +kernel
theorem dJ9_abs_067f4_1 : decode cJ9_abs_067f4 1 = .ok (.lconst 0, 1) := by decide +kernel
theorem dJ9_abs_067f4_2 : decode cJ9_abs_067f4 2 = .ok (.lcmp, 1) := by decide +kernel
theorem dJ9_abs_067f4_3 : decode cJ9_abs_067f4 3 = .ok (.ifCond .ge 8, 3) := by decide +kernel
theorem dJ9_abs_067f4_6 : decode cJ9_abs_067f4 6 = .ok (.lload_n 0, 1) := by decide +kernel
theorem dJ9_abs_067f4_7 : decode cJ9_abs_067f4 7 = .ok (.lneg, 1) := by decide +kernel
theorem dJ9_abs_067f4_8 : decode cJ9_abs_067f4 8 = .ok (.goto 4, 3) := by decide +kernel
theorem dJ9_abs_067f4_11 : decode cJ9_abs_067f4 11 = .ok (.lload_n 0, 1) := by decide +kernel
theorem dJ9_abs_067f4_12 : decode cJ9_abs_067f4 12 = .ok (.lreturn, 1) := by decide +kernel
theorem dJ9_max_7cf53_0 : decode cJ9_max_7cf53 0 = .ok (.iload_n 0, 1) := by decide +kernel
theorem dJ9_max_7cf53_1 : decode cJ9_max_7cf53 1 = .ok (.iload_n 1, 1) := by decide +kernel
theorem dJ9_max_7cf53_2 : decode cJ9_max_7cf53 2 = .ok (.if_icmp .lt 7, 3) := by decide +kernel
theorem dJ9_max_7cf53_5 : decode cJ9_max_7cf53 5 = .ok (.iload_n 0, 1) := by decide +kernel
theorem dJ9_max_7cf53_6 : decode cJ9_max_7cf53 6 = .ok (.goto 4, 3) := by decide +kernel
theorem dJ9_max_7cf53_9 : decode cJ9_max_7cf53 9 = .ok (.iload_n 1, 1) := by decide +kernel
theorem dJ9_max_7cf53_10 : decode cJ9_max_7cf53 10 = .ok (.ireturn, 1) := by decide +kernel
theorem dJ9_max_f86c9_0 : decode cJ9_max_f86c9 0 = .ok (.lload_n 0, 1) := by decide +kernel
theorem dJ9_max_f86c9_1 : decode cJ9_max_f86c9 1 = .ok (.lload_n 2, 1) := by decide +kernel
theorem dJ9_max_f86c9_2 : decode cJ9_max_f86c9 2 = .ok (.lcmp, 1) := by decide +kernel
theorem dJ9_max_f86c9_3 : decode cJ9_max_f86c9 3 = .ok (.ifCond .lt 7, 3) := by decide +kernel
theorem dJ9_max_f86c9_6 : decode cJ9_max_f86c9 6 = .ok (.lload_n 0, 1) := by decide +kernel
theorem dJ9_max_f86c9_7 : decode cJ9_max_f86c9 7 = .ok (.goto 4, 3) := by decide +kernel
theorem dJ9_max_f86c9_10 : decode cJ9_max_f86c9 10 = .ok (.lload_n 2, 1) := by decide +kernel
theorem dJ9_max_f86c9_11 : decode cJ9_max_f86c9 11 = .ok (.lreturn, 1) := by decide +kernel
theorem dJ9_min_7cf53_0 : decode cJ9_min_7cf53 0 = .ok (.iload_n 0, 1) := by decide +kernel
theorem dJ9_min_7cf53_1 : decode cJ9_min_7cf53 1 = .ok (.iload_n 1, 1) := by decide +kernel
theorem dJ9_min_7cf53_2 : decode cJ9_min_7cf53 2 = .ok (.if_icmp .gt 7, 3) := by decide +kernel
theorem dJ9_min_7cf53_5 : decode cJ9_min_7cf53 5 = .ok (.iload_n 0, 1) := by decide +kernel
theorem dJ9_min_7cf53_6 : decode cJ9_min_7cf53 6 = .ok (.goto 4, 3) := by decide +kernel
theorem dJ9_min_7cf53_9 : decode cJ9_min_7cf53 9 = .ok (.iload_n 1, 1) := by decide +kernel
theorem dJ9_min_7cf53_10 : decode cJ9_min_7cf53 10 = .ok (.ireturn, 1) := by decide +kernel
theorem dJ9_min_f86c9_0 : decode cJ9_min_f86c9 0 = .ok (.lload_n 0, 1) := by decide +kernel
theorem dJ9_min_f86c9_1 : decode cJ9_min_f86c9 1 = .ok (.lload_n 2, 1) := by decide +kernel
theorem dJ9_min_f86c9_2 : decode cJ9_min_f86c9 2 = .ok (.lcmp, 1) := by decide +kernel
theorem dJ9_min_f86c9_3 : decode cJ9_min_f86c9 3 = .ok (.ifCond .gt 7, 3) := by decide +kernel
theorem dJ9_min_f86c9_6 : decode cJ9_min_f86c9 6 = .ok (.lload_n 0, 1) := by decide +kernel
theorem dJ9_min_f86c9_7 : decode cJ9_min_f86c9 7 = .ok (.goto 4, 3) := by decide +kernel
theorem dJ9_min_f86c9_10 : decode cJ9_min_f86c9 10 = .ok (.lload_n 2, 1) := by decide +kernel
theorem dJ9_min_f86c9_11 : decode cJ9_min_f86c9 11 = .ok (.lreturn, 1) := by decide +kernel
