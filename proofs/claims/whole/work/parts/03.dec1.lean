theorem dX10_init_0 : decode cX10_init 0 = .ok (.aload_n 0, 1) := by decide +kernel
theorem dX10_init_1 : decode cX10_init 1 = .ok (.invokespecial 1, 3) := by decide +kernel
theorem dX10_init_4 : decode cX10_init 4 = .ok (.aload_n 0, 1) := by decide +kernel
theorem dX10_init_5 : decode cX10_init 5 = .ok (.new 7, 3) := by decide +kernel
theorem dX10_init_8 : decode cX10_init 8 = .ok (.dup, 1) := by decide +kernel
theorem dX10_init_9 : decode cX10_init 9 = .ok (.invokespecial 9, 3) := by decide +kernel
theorem dX10_init_12 : decode cX10_init 12 = .ok (.putfield 10, 3) := by decide +kernel
theorem dX10_init_15 : decode cX10_init 15 = .ok (.aload_n 0, 1) := by decide +kernel
theorem dX10_init_16 : decode cX10_init 16 = .ok (.new 16, 3) := by decide +kernel
theorem dX10_init_19 : decode cX10_init 19 = .ok (.dup, 1) := by decide +kernel
theorem dX10_init_20 : decode cX10_init 20 = .ok (.invokespecial 18, 3) := by decide +kernel
theorem dX10_init_23 : decode cX10_init 23 = .ok (.putfield 19, 3) := by decide +kernel
theorem dX10_init_26 : decode cX10_init 26 = .ok (.aload_n 0, 1) := by decide +kernel
theorem dX10_init_27 : decode cX10_init 27 = .ok (.bipush 6, 2) := by decide +kernel
theorem dX10_init_29 : decode cX10_init 29 = .ok (.anewarray 23, 3) := by decide +kernel
theorem dX10_init_32 : decode cX10_init 32 = .ok (.putfield 25, 3) := by decide +kernel
theorem dX10_init_35 : decode cX10_init 35 = .ok (.aload_n 0, 1) := by decide +kernel
theorem dX10_init_36 : decode cX10_init 36 = .ok (.bipush 6, 2) := by decide +kernel
theorem dX10_init_38 : decode cX10_init 38 = .ok (.anewarray 29, 3) := by decide +kernel
theorem dX10_init_41 : decode cX10_init 41 = .ok (.putfield 31, 3) := by decide +kernel
theorem dX10_init_44 : decode cX10_init 44 = .ok (.aload_n 0, 1) := by decide +kernel
theorem dX10_init_45 : decode cX10_init 45 = .ok (.iconst 4, 1) := by decide +kernel
theorem dX10_init_46 : decode cX10_init 46 = .ok (.newarray .int, 2) := by decide +kernel
theorem dX10_init_48 : decode cX10_init 48 = .ok (.putfield 35, 3) := by decide +kernel
theorem dX10_init_51 : decode cX10_init 51 = .ok (.aload_n 0, 1) := by decide +kernel
theorem dX10_init_52 : decode cX10_init 52 = .ok (.new 39, 3) := by decide +kernel
theorem dX10_init_55 : decode cX10_init 55 = .ok (.dup, 1) := by decide +kernel
theorem dX10_init_56 : decode cX10_init 56 = .ok (.invokespecial 41, 3) := by decide +kernel
theorem dX10_init_59 : decode cX10_init 59 = .ok (.putfield 42, 3) := by decide +kernel
theorem dX10_init_62 : decode cX10_init 62 = .ok (.aload_n 0, 1) := by decide +kernel
theorem dX10_init_63 : decode cX10_init 63 = .ok (.new 46, 3) := by decide +kernel
theorem dX10_init_66 : decode cX10_init 66 = .ok (.dup, 1) := by decide +kernel
theorem dX10_init_67 : decode cX10_init 67 = .ok (.invokespecial 48, 3) := by decide +kernel
theorem dX10_init_70 : decode cX10_init 70 = .ok (.putfield 49, 3) := by decide +kernel
theorem dX10_init_73 : decode cX10_init 73 = .ok (.aload_n 0, 1) := by decide +kernel
theorem dX10_init_74 : decode cX10_init 74 = .ok (.iconst 4, 1) := by decide +kernel
theorem dX10_init_75 : decode cX10_init 75 = .ok (.newarray .long, 2) := by decide +kernel
theorem dX10_init_77 : decode cX10_init 77 = .ok (.putfield 53, 3) := by decide +kernel
theorem dX10_init_80 : decode cX10_init 80 = .ok (.aload_n 0, 1) := by decide +kernel
theorem dX10_init_81 : decode cX10_init 81 = .ok (.new 57, 3) := by decide +kernel
theorem dX10_init_84 : decode cX10_init 84 = .ok (.dup, 1) := by decide +kernel
theorem dX10_init_85 : decode cX10_init 85 = .ok (.invokespecial 59, 3) := by decide +kernel
theorem dX10_init_88 : decode cX10_init 88 = .ok (.putfield 60, 3) := by decide +kernel
theorem dX10_init_91 : decode cX10_init 91 = .ok (.aload_n 0, 1) := by decide +kernel
theorem dX10_init_92 : decode cX10_init 92 = .ok (.new 64, 3) := by decide +kernel
theorem dX10_init_95 : decode cX10_init 95 = .ok (.dup, 1) := by decide +kernel
theorem dX10_init_96 : decode cX10_init 96 = .ok (.invokespecial 66, 3) := by decide +kernel
theorem dX10_init_99 : decode cX10_init 99 = .ok (.putfield 67, 3) := by decide +kernel
theorem dX10_init_102 : decode cX10_init 102 = .ok (.aload_n 0, 1) := by decide +kernel
theorem dX10_init_103 : decode cX10_init 103 = .ok (.new 71, 3) := by decide +kernel
theorem dX10_init_106 : decode cX10_init 106 = .ok (.dup, 1) := by decide +kernel
theorem dX10_init_107 : decode cX10_init 107 = .ok (.invokespecial 73, 3) := by decide +kernel
theorem dX10_init_110 : decode cX10_init 110 = .ok (.putfield 74, 3) := by decide +kernel
theorem dX10_init_113 : decode cX10_init 113 = .ok (.return_, 1) := by decide +kernel
theorem dX10_feed_0 : decode cX10_feed 0 = .ok (.aload_n 0, 1) := by decide +kernel
theorem dX10_feed_1 : decode cX10_feed 1 = .ok (.getfield 10, 3) := by decide +kernel
theorem dX10_feed_4 : decode cX10_feed 4 = .ok (.getfield 78, 3) := by decide +kernel
theorem dX10_feed_7 : decode cX10_feed 7 = .ok (.bipush 20, 2) := by decide +kernel
theorem dX10_feed_9 : decode cX10_feed 9 = .ok (.iadd, 1) := by decide +kernel
theorem dX10_feed_10 : decode cX10_feed 10 = .ok (.bipush 120, 2) := by decide +kernel
theorem dX10_feed_12 : decode cX10_feed 12 = .ok (.if_icmp .le 5, 3) := by decide +kernel
theorem dX10_feed_15 : decode cX10_feed 15 = .ok (.iconst (-1), 1) := by decide +kernel
theorem dX10_feed_16 : decode cX10_feed 16 = .ok (.ireturn, 1) := by decide +kernel
theorem dX10_feed_17 : decode cX10_feed 17 = .ok (.aload_n 0, 1) := by decide +kernel
theorem dX10_feed_18 : decode cX10_feed 18 = .ok (.getfield 10, 3) := by decide +kernel
theorem dX10_feed_21 : decode cX10_feed 21 = .ok (.iload_n 1, 1) := by decide +kernel
theorem dX10_feed_22 : decode cX10_feed 22 = .ok (.invokevirtual 82, 3) := by decide +kernel
theorem dX10_feed_25 : decode cX10_feed 25 = .ok (.aload_n 0, 1) := by decide +kernel
theorem dX10_feed_26 : decode cX10_feed 26 = .ok (.getfield 10, 3) := by decide +kernel
theorem dX10_feed_29 : decode cX10_feed 29 = .ok (.iload_n 2, 1) := by decide +kernel
theorem dX10_feed_30 : decode cX10_feed 30 = .ok (.invokevirtual 82, 3) := by decide +kernel
theorem dX10_feed_33 : decode cX10_feed 33 = .ok (.aload_n 0, 1) := by decide +kernel
theorem dX10_feed_34 : decode cX10_feed 34 = .ok (.getfield 10, 3) := by decide +kernel
theorem dX10_feed_37 : decode cX10_feed 37 = .ok (.iload_n 3, 1) := by decide +kernel
theorem dX10_feed_38 : decode cX10_feed 38 = .ok (.invokevirtual 82, 3) := by decide +kernel
theorem dX10_feed_41 : decode cX10_feed 41 = .ok (.aload_n 0, 1) := by decide +kernel
theorem dX10_feed_42 : decode cX10_feed 42 = .ok (.getfield 10, 3) := by decide +kernel
theorem dX10_feed_45 : decode cX10_feed 45 = .ok (.iload 4, 2) := by decide +kernel
theorem dX10_feed_47 : decode cX10_feed 47 = .ok (.invokevirtual 82, 3) := by decide +kernel
theorem dX10_feed_50 : decode cX10_feed 50 = .ok (.aload_n 0, 1) := by decide +kernel
theorem dX10_feed_51 : decode cX10_feed 51 = .ok (.getfield 10, 3) := by decide +kernel
theorem dX10_feed_54 : decode cX10_feed 54 = .ok (.iload 5, 2) := by decide +kernel
theorem dX10_feed_56 : decode cX10_feed 56 = .ok (.invokevirtual 82, 3) := by decide +kernel
theorem dX10_feed_59 : decode cX10_feed 59 = .ok (.aload_n 0, 1) := by decide +kernel
theorem dX10_feed_60 : decode cX10_feed 60 = .ok (.getfield 10, 3) := by decide +kernel
theorem dX10_feed_63 : decode cX10_feed 63 = .ok (.getfield 78, 3) := by decide +kernel
theorem dX10_feed_66 : decode cX10_feed 66 = .ok (.ireturn, 1) := by decide +kernel
theorem dX10_end_0 : decode cX10_end 0 = .ok (.iload_n 1, 1) := by decide +kernel
theorem dX10_end_1 : decode cX10_end 1 = .ok (.ifCond .lt 14, 3) := by decide +kernel
theorem dX10_end_4 : decode cX10_end 4 = .ok (.iload_n 1, 1) := by decide +kernel
theorem dX10_end_5 : decode cX10_end 5 = .ok (.aload_n 0, 1) := by decide +kernel
theorem dX10_end_6 : decode cX10_end 6 = .ok (.getfield 10, 3) := by decide +kernel
theorem dX10_end_9 : decode cX10_end 9 = .ok (.getfield 78, 3) := by decide +kernel
theorem dX10_end_12 : decode cX10_end 12 = .ok (.if_icmp .le 5, 3) := by decide +kernel
theorem dX10_end_15 : decode cX10_end 15 = .ok (.iconst 0, 1) := by decide +kernel
theorem dX10_end_16 : decode cX10_end 16 = .ok (.ireturn, 1) := by decide +kernel
theorem dX10_end_17 : decode cX10_end 17 = .ok (.aload_n 0, 1) := by decide +kernel
theorem dX10_end_18 : decode cX10_end 18 = .ok (.getfield 10, 3) := by decide +kernel
theorem dX10_end_21 : decode cX10_end 21 = .ok (.iload_n 1, 1) := by decide +kernel
theorem dX10_end_22 : decode cX10_end 22 = .ok (.putfield 78, 3) := by decide +kernel
theorem dX10_end_25 : decode cX10_end 25 = .ok (.iconst 1, 1) := by decide +kernel
theorem dX10_end_26 : decode cX10_end 26 = .ok (.ireturn, 1) := by decide +kernel
theorem dX10_fault_0 : decode cX10_fault 0 = .ok (.aload_n 0, 1) := by decide +kernel
theorem dX10_fault_1 : decode cX10_fault 1 = .ok (.getfield 19, 3) := by decide +kernel
theorem dX10_fault_4 : decode cX10_fault 4 = .ok (.aload_n 0, 1) := by decide +kernel
theorem dX10_fault_5 : decode cX10_fault 5 = .ok (.getfield 10, 3) := by decide +kernel
theorem dX10_fault_8 : decode cX10_fault 8 = .ok (.invokevirtual 86, 3) := by decide +kernel
theorem dX10_fault_11 : decode cX10_fault 11 = .ok (.ireturn, 1) := by decide +kernel
theorem dX10_rule_0 : decode cX10_rule 0 = .ok (.aload_n 0, 1) := by decide +kernel
theorem dX10_rule_1 : decode cX10_rule 1 = .ok (.getfield 90, 3) := by decide +kernel
theorem dX10_rule_4 : decode cX10_rule 4 = .ok (.bipush 6, 2) := by decide +kernel
theorem dX10_rule_6 : decode cX10_rule 6 = .ok (.if_icmp .ge 18, 3) := by decide +kernel
theorem dX10_rule_9 : decode cX10_rule 9 = .ok (.aload_n 0, 1) := by decide +kernel
theorem dX10_rule_10 : decode cX10_rule 10 = .ok (.getfield 19, 3) := by decide +kernel
theorem dX10_rule_13 : decode cX10_rule 13 = .ok (.aload_n 0, 1) := by decide +kernel
theorem dX10_rule_14 : decode cX10_rule 14 = .ok (.getfield 10, 3) := by decide +kernel
theorem dX10_rule_17 : decode cX10_rule 17 = .ok (.invokevirtual 86, 3) := by decide +kernel
theorem dX10_rule_20 : decode cX10_rule 20 = .ok (.iconst (-1), 1) := by decide +kernel
theorem dX10_rule_21 : decode cX10_rule 21 = .ok (.if_icmp .eq 5, 3) := by decide +kernel
theorem dX10_rule_24 : decode cX10_rule 24 = .ok (.iconst (-1), 1) := by decide +kernel
theorem dX10_rule_25 : decode cX10_rule 25 = .ok (.ireturn, 1) := by decide +kernel
theorem dX10_rule_26 : decode cX10_rule 26 = .ok (.aload_n 0, 1) := by decide +kernel
theorem dX10_rule_27 : decode cX10_rule 27 = .ok (.getfield 25, 3) := by decide +kernel
theorem dX10_rule_30 : decode cX10_rule 30 = .ok (.aload_n 0, 1) := by decide +kernel
theorem dX10_rule_31 : decode cX10_rule 31 = .ok (.getfield 90, 3) := by decide +kernel
theorem dX10_rule_34 : decode cX10_rule 34 = .ok (.new 23, 3) := by decide +kernel
theorem dX10_rule_37 : decode cX10_rule 37 = .ok (.dup, 1) := by decide +kernel
theorem dX10_rule_38 : decode cX10_rule 38 = .ok (.aload_n 0, 1) := by decide +kernel
theorem dX10_rule_39 : decode cX10_rule 39 = .ok (.getfield 19, 3) := by decide +kernel
theorem dX10_rule_42 : decode cX10_rule 42 = .ok (.invokespecial 93, 3) := by decide +kernel
theorem dX10_rule_45 : decode cX10_rule 45 = .ok (.aastore, 1) := by decide +kernel
theorem dX10_rule_46 : decode cX10_rule 46 = .ok (.aload_n 0, 1) := by decide +kernel
theorem dX10_rule_47 : decode cX10_rule 47 = .ok (.dup, 1) := by decide +kernel
theorem dX10_rule_48 : decode cX10_rule 48 = .ok (.getfield 90, 3) := by decide +kernel
theorem dX10_rule_51 : decode cX10_rule 51 = .ok (.iconst 1, 1) := by decide +kernel
theorem dX10_rule_52 : decode cX10_rule 52 = .ok (.iadd, 1) := by decide +kernel
theorem dX10_rule_53 : decode cX10_rule 53 = .ok (.putfield 90, 3) := by decide +kernel
theorem dX10_rule_56 : decode cX10_rule 56 = .ok (.aload_n 0, 1) := by decide +kernel
theorem dX10_rule_57 : decode cX10_rule 57 = .ok (.getfield 10, 3) := by decide +kernel
theorem dX10_rule_60 : decode cX10_rule 60 = .ok (.iconst 0, 1) := by decide +kernel
theorem dX10_rule_61 : decode cX10_rule 61 = .ok (.putfield 78, 3) := by decide +kernel
theorem dX10_rule_64 : decode cX10_rule 64 = .ok (.aload_n 0, 1) := by decide +kernel
theorem dX10_rule_65 : decode cX10_rule 65 = .ok (.getfield 90, 3) := by decide +kernel
theorem dX10_rule_68 : decode cX10_rule 68 = .ok (.iconst 1, 1) := by decide +kernel
theorem dX10_rule_69 : decode cX10_rule 69 = .ok (.isub, 1) := by decide +kernel
theorem dX10_rule_70 : decode cX10_rule 70 = .ok (.ireturn, 1) := by decide +kernel
theorem dX10_told_0 : decode cX10_told 0 = .ok (.aload_n 0, 1) := by decide +kernel
theorem dX10_told_1 : decode cX10_told 1 = .ok (.iload_n 1, 1) := by decide +kernel
theorem dX10_told_2 : decode cX10_told 2 = .ok (.invokevirtual 96, 3) := by decide +kernel
theorem dX10_told_5 : decode cX10_told 5 = .ok (.astore_n 3, 1) := by decide +kernel
theorem dX10_told_6 : decode cX10_told 6 = .ok (.aload_n 3, 1) := by decide +kernel
theorem dX10_told_7 : decode cX10_told 7 = .ok (.ifnonnull 6, 3) := by decide +kernel
theorem dX10_told_10 : decode cX10_told 10 = .ok (.ldc 100, 2) := by decide +kernel
theorem dX10_told_12 : decode cX10_told 12 = .ok (.ireturn, 1) := by decide +kernel
theorem dX10_told_13 : decode cX10_told 13 = .ok (.iload_n 2, 1) := by decide +kernel
theorem dX10_told_14 : decode cX10_told 14 = .ok (.ifCond .ne 8, 3) := by decide +kernel
theorem dX10_told_17 : decode cX10_told 17 = .ok (.aload_n 3, 1) := by decide +kernel
theorem dX10_told_18 : decode cX10_told 18 = .ok (.getfield 101, 3) := by decide +kernel
theorem dX10_told_21 : decode cX10_told 21 = .ok (.ireturn, 1) := by decide +kernel
theorem dX10_told_22 : decode cX10_told 22 = .ok (.iload_n 2, 1) := by decide +kernel
theorem dX10_told_23 : decode cX10_told 23 = .ok (.iconst 1, 1) := by decide +kernel
theorem dX10_told_24 : decode cX10_told 24 = .ok (.if_icmp .ne 8, 3) := by decide +kernel
theorem dX10_told_27 : decode cX10_told 27 = .ok (.aload_n 3, 1) := by decide +kernel
theorem dX10_told_28 : decode cX10_told 28 = .ok (.getfield 104, 3) := by decide +kernel
theorem dX10_told_31 : decode cX10_told 31 = .ok (.ireturn, 1) := by decide +kernel
theorem dX10_told_32 : decode cX10_told 32 = .ok (.iload_n 2, 1) := by decide +kernel
theorem dX10_told_33 : decode cX10_told 33 = .ok (.bipush 10, 2) := by decide +kernel
theorem dX10_told_35 : decode cX10_told 35 = .ok (.if_icmp .lt 18, 3) := by decide +kernel
theorem dX10_told_38 : decode cX10_told 38 = .ok (.iload_n 2, 1) := by decide +kernel
theorem dX10_told_39 : decode cX10_told 39 = .ok (.bipush 20, 2) := by decide +kernel
theorem dX10_told_41 : decode cX10_told 41 = .ok (.if_icmp .ge 12, 3) := by decide +kernel
theorem dX10_told_44 : decode cX10_told 44 = .ok (.aload_n 3, 1) := by decide +kernel
theorem dX10_told_45 : decode cX10_told 45 = .ok (.iload_n 2, 1) := by decide +kernel
theorem dX10_told_46 : decode cX10_told 46 = .ok (.bipush 10, 2) := by decide +kernel
theorem dX10_told_48 : decode cX10_told 48 = .ok (.isub, 1) := by decide +kernel
theorem dX10_told_49 : decode cX10_told 49 = .ok (.invokevirtual 107, 3) := by decide +kernel
theorem dX10_told_52 : decode cX10_told 52 = .ok (.ireturn, 1) := by decide +kernel
theorem dX10_told_53 : decode cX10_told 53 = .ok (.iload_n 2, 1) := by decide +kernel
theorem dX10_told_54 : decode cX10_told 54 = .ok (.bipush 20, 2) := by decide +kernel
theorem dX10_told_56 : decode cX10_told 56 = .ok (.if_icmp .lt 18, 3) := by decide +kernel
theorem dX10_told_59 : decode cX10_told 59 = .ok (.iload_n 2, 1) := by decide +kernel
theorem dX10_told_60 : decode cX10_told 60 = .ok (.bipush 30, 2) := by decide +kernel
theorem dX10_told_62 : decode cX10_told 62 = .ok (.if_icmp .ge 12, 3) := by decide +kernel
theorem dX10_told_65 : decode cX10_told 65 = .ok (.aload_n 3, 1) := by decide +kernel
theorem dX10_told_66 : decode cX10_told 66 = .ok (.iload_n 2, 1) := by decide +kernel
theorem dX10_told_67 : decode cX10_told 67 = .ok (.bipush 20, 2) := by decide +kernel
theorem dX10_told_69 : decode cX10_told 69 = .ok (.isub, 1) := by decide +kernel
theorem dX10_told_70 : decode cX10_told 70 = .ok (.invokevirtual 111, 3) := by decide +kernel
theorem dX10_told_73 : decode cX10_told 73 = .ok (.ireturn, 1) := by decide +kernel
theorem dX10_told_74 : decode cX10_told 74 = .ok (.ldc 100, 2) := by decide +kernel
theorem dX10_told_76 : decode cX10_told 76 = .ok (.ireturn, 1) := by decide +kernel
theorem dX10_range_0 : decode cX10_range 0 = .ok (.aload_n 0, 1) := by decide +kernel
theorem dX10_range_1 : decode cX10_range 1 = .ok (.iload_n 1, 1) := by decide +kernel
theorem dX10_range_2 : decode cX10_range 2 = .ok (.invokevirtual 96, 3) := by decide +kernel
theorem dX10_range_5 : decode cX10_range 5 = .ok (.astore 6, 2) := by decide +kernel
theorem dX10_range_7 : decode cX10_range 7 = .ok (.aload 6, 2) := by decide +kernel
theorem dX10_range_9 : decode cX10_range 9 = .ok (.ifnull 17, 3) := by decide +kernel
theorem dX10_range_12 : decode cX10_range 12 = .ok (.aload 6, 2) := by decide +kernel
theorem dX10_range_14 : decode cX10_range 14 = .ok (.iload_n 2, 1) := by decide +kernel
theorem dX10_range_15 : decode cX10_range 15 = .ok (.iload_n 3, 1) := by decide +kernel
theorem dX10_range_16 : decode cX10_range 16 = .ok (.iload 4, 2) := by decide +kernel
theorem dX10_range_18 : decode cX10_range 18 = .ok (.iload 5, 2) := by decide +kernel
theorem dX10_range_20 : decode cX10_range 20 = .ok (.invokevirtual 114, 3) := by decide +kernel
theorem dX10_range_23 : decode cX10_range 23 = .ok (.ifCond .ne 5, 3) := by decide +kernel
theorem dX10_range_26 : decode cX10_range 26 = .ok (.iconst (-1), 1) := by decide +kernel
theorem dX10_range_27 : decode cX10_range 27 = .ok (.ireturn, 1) := by decide +kernel
theorem dX10_range_28 : decode cX10_range 28 = .ok (.aload 6, 2) := by decide +kernel
theorem dX10_range_30 : decode cX10_range 30 = .ok (.iload_n 2, 1) := by decide +kernel
theorem dX10_range_31 : decode cX10_range 31 = .ok (.iload_n 3, 1) := by decide +kernel
theorem dX10_range_32 : decode cX10_range 32 = .ok (.iload 4, 2) := by decide +kernel
theorem dX10_range_34 : decode cX10_range 34 = .ok (.iload 5, 2) := by decide +kernel
theorem dX10_range_36 : decode cX10_range 36 = .ok (.invokevirtual 118, 3) := by decide +kernel
theorem dX10_range_39 : decode cX10_range 39 = .ok (.iload 5, 2) := by decide +kernel
theorem dX10_range_41 : decode cX10_range 41 = .ok (.ireturn, 1) := by decide +kernel
theorem dX10_mark_0 : decode cX10_mark 0 = .ok (.aload_n 0, 1) := by decide +kernel
theorem dX10_mark_1 : decode cX10_mark 1 = .ok (.iload_n 1, 1) := by decide +kernel
theorem dX10_mark_2 : decode cX10_mark 2 = .ok (.invokevirtual 96, 3) := by decide +kernel
theorem dX10_mark_5 : decode cX10_mark 5 = .ok (.astore 4, 2) := by decide +kernel
theorem dX10_mark_7 : decode cX10_mark 7 = .ok (.aload 4, 2) := by decide +kernel
theorem dX10_mark_9 : decode cX10_mark 9 = .ok (.ifnull 13, 3) := by decide +kernel
theorem dX10_mark_12 : decode cX10_mark 12 = .ok (.aload 4, 2) := by decide +kernel
theorem dX10_mark_14 : decode cX10_mark 14 = .ok (.iload_n 2, 1) := by decide +kernel
theorem dX10_mark_15 : decode cX10_mark 15 = .ok (.iload_n 3, 1) := by decide +kernel
theorem dX10_mark_16 : decode cX10_mark 16 = .ok (.invokevirtual 122, 3) := by decide +kernel
theorem dX10_mark_19 : decode cX10_mark 19 = .ok (.ifCond .ne 6, 3) := by decide +kernel
theorem dX10_mark_22 : decode cX10_mark 22 = .ok (.ldc 100, 2) := by decide +kernel
theorem dX10_mark_24 : decode cX10_mark 24 = .ok (.ireturn, 1) := by decide +kernel
theorem dX10_mark_25 : decode cX10_mark 25 = .ok (.aload 4, 2) := by decide +kernel
theorem dX10_mark_27 : decode cX10_mark 27 = .ok (.iload_n 2, 1) := by decide +kernel
theorem dX10_mark_28 : decode cX10_mark 28 = .ok (.iload_n 3, 1) := by decide +kernel
theorem dX10_mark_29 : decode cX10_mark 29 = .ok (.invokevirtual 126, 3) := by decide +kernel
theorem dX10_mark_32 : decode cX10_mark 32 = .ok (.ireturn, 1) := by decide +kernel
theorem dX10_chart_0 : decode cX10_chart 0 = .ok (.aload_n 0, 1) := by decide +kernel
theorem dX10_chart_1 : decode cX10_chart 1 = .ok (.iload_n 1, 1) := by decide +kernel
theorem dX10_chart_2 : decode cX10_chart 2 = .ok (.invokevirtual 96, 3) := by decide +kernel
theorem dX10_chart_5 : decode cX10_chart 5 = .ok (.astore 7, 2) := by decide +kernel
theorem dX10_chart_7 : decode cX10_chart 7 = .ok (.aload 7, 2) := by decide +kernel
theorem dX10_chart_9 : decode cX10_chart 9 = .ok (.ifnull 25, 3) := by decide +kernel
theorem dX10_chart_12 : decode cX10_chart 12 = .ok (.aload_n 0, 1) := by decide +kernel
theorem dX10_chart_13 : decode cX10_chart 13 = .ok (.getfield 130, 3) := by decide +kernel
theorem dX10_chart_16 : decode cX10_chart 16 = .ok (.bipush 6, 2) := by decide +kernel
theorem dX10_chart_18 : decode cX10_chart 18 = .ok (.if_icmp .ge 16, 3) := by decide +kernel
theorem dX10_chart_21 : decode cX10_chart 21 = .ok (.iload_n 3, 1) := by decide +kernel
theorem dX10_chart_22 : decode cX10_chart 22 = .ok (.bipush 10, 2) := by decide +kernel
theorem dX10_chart_24 : decode cX10_chart 24 = .ok (.if_icmp .lt 10, 3) := by decide +kernel
theorem dX10_chart_27 : decode cX10_chart 27 = .ok (.iload_n 3, 1) := by decide +kernel
theorem dX10_chart_28 : decode cX10_chart 28 = .ok (.sipush 1000, 3) := by decide +kernel
theorem dX10_chart_31 : decode cX10_chart 31 = .ok (.if_icmp .le 5, 3) := by decide +kernel
theorem dX10_chart_34 : decode cX10_chart 34 = .ok (.iconst (-1), 1) := by decide +kernel
theorem dX10_chart_35 : decode cX10_chart 35 = .ok (.ireturn, 1) := by decide +kernel
theorem dX10_chart_36 : decode cX10_chart 36 = .ok (.aload 7, 2) := by decide +kernel
theorem dX10_chart_38 : decode cX10_chart 38 = .ok (.invokevirtual 133, 3) := by decide +kernel
theorem dX10_chart_41 : decode cX10_chart 41 = .ok (.ifCond .eq 12, 3) := by decide +kernel
theorem dX10_chart_44 : decode cX10_chart 44 = .ok (.aload 7, 2) := by decide +kernel
theorem dX10_chart_46 : decode cX10_chart 46 = .ok (.iload_n 2, 1) := by decide +kernel
theorem dX10_chart_47 : decode cX10_chart 47 = .ok (.invokevirtual 137, 3) := by decide +kernel
theorem dX10_chart_50 : decode cX10_chart 50 = .ok (.ifCond .ne 5, 3) := by decide +kernel
theorem dX10_chart_53 : decode cX10_chart 53 = .ok (.iconst (-1), 1) := by decide +kernel
theorem dX10_chart_54 : decode cX10_chart 54 = .ok (.ireturn, 1) := by decide +kernel
theorem dX10_chart_55 : decode cX10_chart 55 = .ok (.aload 7, 2) := by decide +kernel
theorem dX10_chart_57 : decode cX10_chart 57 = .ok (.getfield 101, 3) := by decide +kernel
theorem dX10_chart_60 : decode cX10_chart 60 = .ok (.iconst 2, 1) := by decide +kernel
theorem dX10_chart_61 : decode cX10_chart 61 = .ok (.isub, 1) := by decide +kernel
theorem dX10_chart_62 : decode cX10_chart 62 = .ok (.istore 8, 2) := by decide +kernel
theorem dX10_chart_64 : decode cX10_chart 64 = .ok (.iload 4, 2) := by decide +kernel
theorem dX10_chart_66 : decode cX10_chart 66 = .ok (.iload 8, 2) := by decide +kernel
theorem dX10_chart_68 : decode cX10_chart 68 = .ok (.ifCond .le 7, 3) := by decide +kernel
theorem dX10_chart_71 : decode cX10_chart 71 = .ok (.iconst 1, 1) := by decide +kernel
theorem dX10_chart_72 : decode cX10_chart 72 = .ok (.goto 4, 3) := by decide +kernel
theorem dX10_chart_75 : decode cX10_chart 75 = .ok (.iconst 0, 1) := by decide +kernel
theorem dX10_chart_76 : decode cX10_chart 76 = .ok (.invokestatic 141, 3) := by decide +kernel
theorem dX10_chart_79 : decode cX10_chart 79 = .ok (.ifCond .eq 41, 3) := by decide +kernel
theorem dX10_chart_82 : decode cX10_chart 82 = .ok (.iload 5, 2) := by decide +kernel
theorem dX10_chart_84 : decode cX10_chart 84 = .ok (.iload 8, 2) := by decide +kernel
theorem dX10_chart_86 : decode cX10_chart 86 = .ok (.iconst 1, 1) := by decide +kernel
theorem dX10_chart_87 : decode cX10_chart 87 = .ok (.if_icmp .le 7, 3) := by decide +kernel
theorem dX10_chart_90 : decode cX10_chart 90 = .ok (.iconst 1, 1) := by decide +kernel
theorem dX10_chart_91 : decode cX10_chart 91 = .ok (.goto 4, 3) := by decide +kernel
theorem dX10_chart_94 : decode cX10_chart 94 = .ok (.iconst 0, 1) := by decide +kernel
theorem dX10_chart_95 : decode cX10_chart 95 = .ok (.invokestatic 141, 3) := by decide +kernel
theorem dX10_chart_98 : decode cX10_chart 98 = .ok (.ifCond .eq 22, 3) := by decide +kernel
theorem dX10_chart_101 : decode cX10_chart 101 = .ok (.iload 6, 2) := by decide +kernel
theorem dX10_chart_103 : decode cX10_chart 103 = .ok (.iload 8, 2) := by decide +kernel
theorem dX10_chart_105 : decode cX10_chart 105 = .ok (.iconst 2, 1) := by decide +kernel
theorem dX10_chart_106 : decode cX10_chart 106 = .ok (.if_icmp .le 7, 3) := by decide +kernel
theorem dX10_chart_109 : decode cX10_chart 109 = .ok (.iconst 1, 1) := by decide +kernel
theorem dX10_chart_110 : decode cX10_chart 110 = .ok (.goto 4, 3) := by decide +kernel
theorem dX10_chart_113 : decode cX10_chart 113 = .ok (.iconst 0, 1) := by decide +kernel
theorem dX10_chart_114 : decode cX10_chart 114 = .ok (.invokestatic 141, 3) := by decide +kernel
theorem dX10_chart_117 : decode cX10_chart 117 = .ok (.ifCond .ne 5, 3) := by decide +kernel
theorem dX10_chart_120 : decode cX10_chart 120 = .ok (.iconst (-1), 1) := by decide +kernel
theorem dX10_chart_121 : decode cX10_chart 121 = .ok (.ireturn, 1) := by decide +kernel
theorem dX10_chart_122 : decode cX10_chart 122 = .ok (.new 29, 3) := by decide +kernel
theorem dX10_chart_125 : decode cX10_chart 125 = .ok (.dup, 1) := by decide +kernel
theorem dX10_chart_126 : decode cX10_chart 126 = .ok (.aload 7, 2) := by decide +kernel
theorem dX10_chart_128 : decode cX10_chart 128 = .ok (.aload_n 0, 1) := by decide +kernel
theorem dX10_chart_129 : decode cX10_chart 129 = .ok (.getfield 130, 3) := by decide +kernel
theorem dX10_chart_132 : decode cX10_chart 132 = .ok (.iload_n 3, 1) := by decide +kernel
theorem dX10_chart_133 : decode cX10_chart 133 = .ok (.invokespecial 145, 3) := by decide +kernel
theorem dX10_chart_136 : decode cX10_chart 136 = .ok (.astore 9, 2) := by decide +kernel
theorem dX10_chart_138 : decode cX10_chart 138 = .ok (.aload 9, 2) := by decide +kernel
theorem dX10_chart_140 : decode cX10_chart 140 = .ok (.iload_n 2, 1) := by decide +kernel
theorem dX10_chart_141 : decode cX10_chart 141 = .ok (.invokevirtual 148, 3) := by decide +kernel
theorem dX10_chart_144 : decode cX10_chart 144 = .ok (.aload 9, 2) := by decide +kernel
theorem dX10_chart_146 : decode cX10_chart 146 = .ok (.iconst 0, 1) := by decide +kernel
theorem dX10_chart_147 : decode cX10_chart 147 = .ok (.iload 4, 2) := by decide +kernel
theorem dX10_chart_149 : decode cX10_chart 149 = .ok (.invokevirtual 151, 3) := by decide +kernel
theorem dX10_chart_152 : decode cX10_chart 152 = .ok (.aload 9, 2) := by decide +kernel
theorem dX10_chart_154 : decode cX10_chart 154 = .ok (.iconst 1, 1) := by decide +kernel
theorem dX10_chart_155 : decode cX10_chart 155 = .ok (.iload 5, 2) := by decide +kernel
theorem dX10_chart_157 : decode cX10_chart 157 = .ok (.invokevirtual 151, 3) := by decide +kernel
theorem dX10_chart_160 : decode cX10_chart 160 = .ok (.aload 9, 2) := by decide +kernel
theorem dX10_chart_162 : decode cX10_chart 162 = .ok (.iconst 2, 1) := by decide +kernel
theorem dX10_chart_163 : decode cX10_chart 163 = .ok (.iload 6, 2) := by decide +kernel
theorem dX10_chart_165 : decode cX10_chart 165 = .ok (.invokevirtual 151, 3) := by decide +kernel
theorem dX10_chart_168 : decode cX10_chart 168 = .ok (.aload_n 0, 1) := by decide +kernel
theorem dX10_chart_169 : decode cX10_chart 169 = .ok (.getfield 31, 3) := by decide +kernel
theorem dX10_chart_172 : decode cX10_chart 172 = .ok (.aload_n 0, 1) := by decide +kernel
theorem dX10_chart_173 : decode cX10_chart 173 = .ok (.getfield 130, 3) := by decide +kernel
theorem dX10_chart_176 : decode cX10_chart 176 = .ok (.aload 9, 2) := by decide +kernel
theorem dX10_chart_178 : decode cX10_chart 178 = .ok (.aastore, 1) := by decide +kernel
theorem dX10_chart_179 : decode cX10_chart 179 = .ok (.aload_n 0, 1) := by decide +kernel
theorem dX10_chart_180 : decode cX10_chart 180 = .ok (.dup, 1) := by decide +kernel
theorem dX10_chart_181 : decode cX10_chart 181 = .ok (.getfield 130, 3) := by decide +kernel
theorem dX10_chart_184 : decode cX10_chart 184 = .ok (.iconst 1, 1) := by decide +kernel
theorem dX10_chart_185 : decode cX10_chart 185 = .ok (.iadd, 1) := by decide +kernel
theorem dX10_chart_186 : decode cX10_chart 186 = .ok (.putfield 130, 3) := by decide +kernel
theorem dX10_chart_189 : decode cX10_chart 189 = .ok (.aload_n 0, 1) := by decide +kernel
theorem dX10_chart_190 : decode cX10_chart 190 = .ok (.getfield 130, 3) := by decide +kernel
theorem dX10_chart_193 : decode cX10_chart 193 = .ok (.iconst 1, 1) := by decide +kernel
theorem dX10_chart_194 : decode cX10_chart 194 = .ok (.isub, 1) := by decide +kernel
theorem dX10_chart_195 : decode cX10_chart 195 = .ok (.ireturn, 1) := by decide +kernel
theorem dX10_reading_0 : decode cX10_reading 0 = .ok (.aload_n 0, 1) := by decide +kernel
theorem dX10_reading_1 : decode cX10_reading 1 = .ok (.iload_n 1, 1) := by decide +kernel
theorem dX10_reading_2 : decode cX10_reading 2 = .ok (.invokevirtual 155, 3) := by decide +kernel
theorem dX10_reading_5 : decode cX10_reading 5 = .ok (.astore_n 3, 1) := by decide +kernel
theorem dX10_reading_6 : decode cX10_reading 6 = .ok (.aload_n 3, 1) := by decide +kernel
theorem dX10_reading_7 : decode cX10_reading 7 = .ok (.ifnull 11, 3) := by decide +kernel
theorem dX10_reading_10 : decode cX10_reading 10 = .ok (.aload_n 3, 1) := by decide +kernel
theorem dX10_reading_11 : decode cX10_reading 11 = .ok (.iload_n 2, 1) := by decide +kernel
theorem dX10_reading_12 : decode cX10_reading 12 = .ok (.invokevirtual 159, 3) := by decide +kernel
theorem dX10_reading_15 : decode cX10_reading 15 = .ok (.ifCond .ne 5, 3) := by decide +kernel
theorem dX10_reading_18 : decode cX10_reading 18 = .ok (.iconst 0, 1) := by decide +kernel
theorem dX10_reading_19 : decode cX10_reading 19 = .ok (.ireturn, 1) := by decide +kernel
theorem dX10_reading_20 : decode cX10_reading 20 = .ok (.aload_n 0, 1) := by decide +kernel
theorem dX10_reading_21 : decode cX10_reading 21 = .ok (.aload_n 3, 1) := by decide +kernel
theorem dX10_reading_22 : decode cX10_reading 22 = .ok (.putfield 162, 3) := by decide +kernel
theorem dX10_reading_25 : decode cX10_reading 25 = .ok (.aload_n 0, 1) := by decide +kernel
theorem dX10_reading_26 : decode cX10_reading 26 = .ok (.iload_n 2, 1) := by decide +kernel
theorem dX10_reading_27 : decode cX10_reading 27 = .ok (.putfield 166, 3) := by decide +kernel
theorem dX10_reading_30 : decode cX10_reading 30 = .ok (.iconst 1, 1) := by decide +kernel
theorem dX10_reading_31 : decode cX10_reading 31 = .ok (.ireturn, 1) := by decide +kernel
theorem dX10_read_0 : decode cX10_read 0 = .ok (.aload_n 0, 1) := by decide +kernel
theorem dX10_read_1 : decode cX10_read 1 = .ok (.getfield 162, 3) := by decide +kernel
theorem dX10_read_4 : decode cX10_read 4 = .ok (.astore_n 3, 1) := by decide +kernel
theorem dX10_read_5 : decode cX10_read 5 = .ok (.aload_n 3, 1) := by decide +kernel
theorem dX10_read_6 : decode cX10_read 6 = .ok (.ifnull 15, 3) := by decide +kernel
theorem dX10_read_9 : decode cX10_read 9 = .ok (.iload_n 1, 1) := by decide +kernel
theorem dX10_read_10 : decode cX10_read 10 = .ok (.ifCond .lt 11, 3) := by decide +kernel
theorem dX10_read_13 : decode cX10_read 13 = .ok (.iload_n 1, 1) := by decide +kernel
theorem dX10_read_14 : decode cX10_read 14 = .ok (.aload_n 0, 1) := by decide +kernel
theorem dX10_read_15 : decode cX10_read 15 = .ok (.getfield 169, 3) := by decide +kernel
theorem dX10_read_18 : decode cX10_read 18 = .ok (.if_icmp .le 6, 3) := by decide +kernel
theorem dX10_read_21 : decode cX10_read 21 = .ok (.ldc 100, 2) := by decide +kernel
theorem dX10_read_23 : decode cX10_read 23 = .ok (.ireturn, 1) := by decide +kernel
theorem dX10_read_24 : decode cX10_read 24 = .ok (.iload_n 2, 1) := by decide +kernel
theorem dX10_read_25 : decode cX10_read 25 = .ok (.ifCond .ne 15, 3) := by decide +kernel
theorem dX10_read_28 : decode cX10_read 28 = .ok (.aload_n 0, 1) := by decide +kernel
theorem dX10_read_29 : decode cX10_read 29 = .ok (.aload_n 3, 1) := by decide +kernel
theorem dX10_read_30 : decode cX10_read 30 = .ok (.aload_n 0, 1) := by decide +kernel
theorem dX10_read_31 : decode cX10_read 31 = .ok (.getfield 166, 3) := by decide +kernel
theorem dX10_read_34 : decode cX10_read 34 = .ok (.iload_n 1, 1) := by decide +kernel
theorem dX10_read_35 : decode cX10_read 35 = .ok (.invokevirtual 172, 3) := by decide +kernel
theorem dX10_read_38 : decode cX10_read 38 = .ok (.l2i, 1) := by decide +kernel
theorem dX10_read_39 : decode cX10_read 39 = .ok (.ireturn, 1) := by decide +kernel
theorem dX10_read_40 : decode cX10_read 40 = .ok (.iload_n 2, 1) := by decide +kernel
theorem dX10_read_41 : decode cX10_read 41 = .ok (.iconst 1, 1) := by decide +kernel
theorem dX10_read_42 : decode cX10_read 42 = .ok (.if_icmp .ne 21, 3) := by decide +kernel
theorem dX10_read_45 : decode cX10_read 45 = .ok (.aload_n 3, 1) := by decide +kernel
theorem dX10_read_46 : decode cX10_read 46 = .ok (.getfield 176, 3) := by decide +kernel
theorem dX10_read_49 : decode cX10_read 49 = .ok (.aload_n 0, 1) := by decide +kernel
theorem dX10_read_50 : decode cX10_read 50 = .ok (.aload_n 3, 1) := by decide +kernel
theorem dX10_read_51 : decode cX10_read 51 = .ok (.aload_n 0, 1) := by decide +kernel
theorem dX10_read_52 : decode cX10_read 52 = .ok (.getfield 166, 3) := by decide +kernel
theorem dX10_read_55 : decode cX10_read 55 = .ok (.iload_n 1, 1) := by decide +kernel
theorem dX10_read_56 : decode cX10_read 56 = .ok (.invokevirtual 172, 3) := by decide +kernel
theorem dX10_read_59 : decode cX10_read 59 = .ok (.invokevirtual 180, 3) := by decide +kernel
theorem dX10_read_62 : decode cX10_read 62 = .ok (.ireturn, 1) := by decide +kernel
theorem dX10_read_63 : decode cX10_read 63 = .ok (.iload_n 2, 1) := by decide +kernel
theorem dX10_read_64 : decode cX10_read 64 = .ok (.iconst 2, 1) := by decide +kernel
theorem dX10_read_65 : decode cX10_read 65 = .ok (.if_icmp .ne 9, 3) := by decide +kernel
theorem dX10_read_68 : decode cX10_read 68 = .ok (.aload_n 0, 1) := by decide +kernel
theorem dX10_read_69 : decode cX10_read 69 = .ok (.aload_n 3, 1) := by decide +kernel
theorem dX10_read_70 : decode cX10_read 70 = .ok (.invokevirtual 184, 3) := by decide +kernel
theorem dX10_read_73 : decode cX10_read 73 = .ok (.ireturn, 1) := by decide +kernel
theorem dX10_read_74 : decode cX10_read 74 = .ok (.ldc 100, 2) := by decide +kernel
theorem dX10_read_76 : decode cX10_read 76 = .ok (.ireturn, 1) := by decide +kernel
theorem dX10_lead_0 : decode cX10_lead 0 = .ok (.aload_n 0, 1) := by decide +kernel
theorem dX10_lead_1 : decode cX10_lead 1 = .ok (.getfield 162, 3) := by decide +kernel
theorem dX10_lead_4 : decode cX10_lead 4 = .ok (.astore_n 3, 1) := by decide +kernel
theorem dX10_lead_5 : decode cX10_lead 5 = .ok (.aload_n 3, 1) := by decide +kernel
theorem dX10_lead_6 : decode cX10_lead 6 = .ok (.ifnull 11, 3) := by decide +kernel
theorem dX10_lead_9 : decode cX10_lead 9 = .ok (.aload_n 3, 1) := by decide +kernel
theorem dX10_lead_10 : decode cX10_lead 10 = .ok (.iload_n 1, 1) := by decide +kernel
theorem dX10_lead_11 : decode cX10_lead 11 = .ok (.invokevirtual 188, 3) := by decide +kernel
theorem dX10_lead_14 : decode cX10_lead 14 = .ok (.ifCond .ne 6, 3) := by decide +kernel
theorem dX10_lead_17 : decode cX10_lead 17 = .ok (.ldc 100, 2) := by decide +kernel
theorem dX10_lead_19 : decode cX10_lead 19 = .ok (.ireturn, 1) := by decide +kernel
theorem dX10_lead_20 : decode cX10_lead 20 = .ok (.aload_n 0, 1) := by decide +kernel
theorem dX10_lead_21 : decode cX10_lead 21 = .ok (.aload_n 3, 1) := by decide +kernel
theorem dX10_lead_22 : decode cX10_lead 22 = .ok (.aload_n 0, 1) := by decide +kernel
theorem dX10_lead_23 : decode cX10_lead 23 = .ok (.getfield 166, 3) := by decide +kernel
theorem dX10_lead_26 : decode cX10_lead 26 = .ok (.aload_n 0, 1) := by decide +kernel
theorem dX10_lead_27 : decode cX10_lead 27 = .ok (.getfield 169, 3) := by decide +kernel
theorem dX10_lead_30 : decode cX10_lead 30 = .ok (.invokevirtual 191, 3) := by decide +kernel
theorem dX10_lead_33 : decode cX10_lead 33 = .ok (.aload_n 0, 1) := by decide +kernel
theorem dX10_lead_34 : decode cX10_lead 34 = .ok (.getfield 60, 3) := by decide +kernel
theorem dX10_lead_37 : decode cX10_lead 37 = .ok (.aload_n 3, 1) := by decide +kernel
theorem dX10_lead_38 : decode cX10_lead 38 = .ok (.aload_n 0, 1) := by decide +kernel
theorem dX10_lead_39 : decode cX10_lead 39 = .ok (.getfield 53, 3) := by decide +kernel
theorem dX10_lead_42 : decode cX10_lead 42 = .ok (.iload_n 1, 1) := by decide +kernel
theorem dX10_lead_43 : decode cX10_lead 43 = .ok (.invokevirtual 195, 3) := by decide +kernel
theorem dX10_lead_46 : decode cX10_lead 46 = .ok (.iload_n 2, 1) := by decide +kernel
theorem dX10_lead_47 : decode cX10_lead 47 = .ok (.tableswitch 65 0 3 #[29, 38, 47, 56], 29) := by decide +kernel
theorem dX10_lead_76 : decode cX10_lead 76 = .ok (.aload_n 0, 1) := by decide +kernel
theorem dX10_lead_77 : decode cX10_lead 77 = .ok (.getfield 60, 3) := by decide +kernel
theorem dX10_lead_80 : decode cX10_lead 80 = .ok (.getfield 199, 3) := by decide +kernel
theorem dX10_lead_83 : decode cX10_lead 83 = .ok (.l2i, 1) := by decide +kernel
theorem dX10_lead_84 : decode cX10_lead 84 = .ok (.ireturn, 1) := by decide +kernel
theorem dX10_lead_85 : decode cX10_lead 85 = .ok (.aload_n 0, 1) := by decide +kernel
theorem dX10_lead_86 : decode cX10_lead 86 = .ok (.getfield 60, 3) := by decide +kernel
theorem dX10_lead_89 : decode cX10_lead 89 = .ok (.getfield 203, 3) := by decide +kernel
theorem dX10_lead_92 : decode cX10_lead 92 = .ok (.l2i, 1) := by decide +kernel
theorem dX10_lead_93 : decode cX10_lead 93 = .ok (.ireturn, 1) := by decide +kernel
theorem dX10_lead_94 : decode cX10_lead 94 = .ok (.aload_n 0, 1) := by decide +kernel
theorem dX10_lead_95 : decode cX10_lead 95 = .ok (.getfield 60, 3) := by decide +kernel
theorem dX10_lead_98 : decode cX10_lead 98 = .ok (.getfield 206, 3) := by decide +kernel
theorem dX10_lead_101 : decode cX10_lead 101 = .ok (.l2i, 1) := by decide +kernel
theorem dX10_lead_102 : decode cX10_lead 102 = .ok (.ireturn, 1) := by decide +kernel
theorem dX10_lead_103 : decode cX10_lead 103 = .ok (.aload_n 0, 1) := by decide +kernel
theorem dX10_lead_104 : decode cX10_lead 104 = .ok (.getfield 60, 3) := by decide +kernel
theorem dX10_lead_107 : decode cX10_lead 107 = .ok (.getfield 209, 3) := by decide +kernel
theorem dX10_lead_110 : decode cX10_lead 110 = .ok (.l2i, 1) := by decide +kernel
theorem dX10_lead_111 : decode cX10_lead 111 = .ok (.ireturn, 1) := by decide +kernel
theorem dX10_lead_112 : decode cX10_lead 112 = .ok (.ldc 100, 2) := by decide +kernel
theorem dX10_lead_114 : decode cX10_lead 114 = .ok (.ireturn, 1) := by decide +kernel
theorem dX10_span_0 : decode cX10_span 0 = .ok (.aload_n 0, 1) := by decide +kernel
theorem dX10_span_1 : decode cX10_span 1 = .ok (.getfield 162, 3) := by decide +kernel
theorem dX10_span_4 : decode cX10_span 4 = .ok (.astore_n 3, 1) := by decide +kernel
theorem dX10_span_5 : decode cX10_span 5 = .ok (.aload_n 3, 1) := by decide +kernel
theorem dX10_span_6 : decode cX10_span 6 = .ok (.ifnull 10, 3) := by decide +kernel
theorem dX10_span_9 : decode cX10_span 9 = .ok (.iload_n 1, 1) := by decide +kernel
theorem dX10_span_10 : decode cX10_span 10 = .ok (.invokestatic 212, 3) := by decide +kernel
theorem dX10_span_13 : decode cX10_span 13 = .ok (.ifCond .ne 6, 3) := by decide +kernel
theorem dX10_span_16 : decode cX10_span 16 = .ok (.ldc 100, 2) := by decide +kernel
theorem dX10_span_18 : decode cX10_span 18 = .ok (.ireturn, 1) := by decide +kernel
theorem dX10_span_19 : decode cX10_span 19 = .ok (.aload_n 0, 1) := by decide +kernel
theorem dX10_span_20 : decode cX10_span 20 = .ok (.aload_n 3, 1) := by decide +kernel
theorem dX10_span_21 : decode cX10_span 21 = .ok (.aload_n 0, 1) := by decide +kernel
theorem dX10_span_22 : decode cX10_span 22 = .ok (.getfield 166, 3) := by decide +kernel
theorem dX10_span_25 : decode cX10_span 25 = .ok (.invokevirtual 215, 3) := by decide +kernel
theorem dX10_span_28 : decode cX10_span 28 = .ok (.aload_n 3, 1) := by decide +kernel
theorem dX10_span_29 : decode cX10_span 29 = .ok (.aload_n 0, 1) := by decide +kernel
theorem dX10_span_30 : decode cX10_span 30 = .ok (.getfield 53, 3) := by decide +kernel
theorem dX10_span_33 : decode cX10_span 33 = .ok (.iload_n 2, 1) := by decide +kernel
theorem dX10_span_34 : decode cX10_span 34 = .ok (.ifCond .eq 7, 3) := by decide +kernel
theorem dX10_span_37 : decode cX10_span 37 = .ok (.iload_n 1, 1) := by decide +kernel
theorem dX10_span_38 : decode cX10_span 38 = .ok (.goto 5, 3) := by decide +kernel
theorem dX10_span_41 : decode cX10_span 41 = .ok (.iload_n 1, 1) := by decide +kernel
theorem dX10_span_42 : decode cX10_span 42 = .ok (.ineg, 1) := by decide +kernel
theorem dX10_span_43 : decode cX10_span 43 = .ok (.invokevirtual 219, 3) := by decide +kernel
theorem dX10_span_46 : decode cX10_span 46 = .ok (.l2i, 1) := by decide +kernel
theorem dX10_span_47 : decode cX10_span 47 = .ok (.ireturn, 1) := by decide +kernel
theorem dX10_page_0 : decode cX10_page 0 = .ok (.aload_n 0, 1) := by decide +kernel
theorem dX10_page_1 : decode cX10_page 1 = .ok (.iload_n 1, 1) := by decide +kernel
theorem dX10_page_2 : decode cX10_page 2 = .ok (.invokevirtual 155, 3) := by decide +kernel
theorem dX10_page_5 : decode cX10_page 5 = .ok (.astore 4, 2) := by decide +kernel
theorem dX10_page_7 : decode cX10_page 7 = .ok (.aload 4, 2) := by decide +kernel
theorem dX10_page_9 : decode cX10_page 9 = .ok (.ifnull 12, 3) := by decide +kernel
theorem dX10_page_12 : decode cX10_page 12 = .ok (.aload 4, 2) := by decide +kernel
theorem dX10_page_14 : decode cX10_page 14 = .ok (.iload_n 2, 1) := by decide +kernel
theorem dX10_page_15 : decode cX10_page 15 = .ok (.invokevirtual 188, 3) := by decide +kernel
theorem dX10_page_18 : decode cX10_page 18 = .ok (.ifCond .ne 5, 3) := by decide +kernel
theorem dX10_page_21 : decode cX10_page 21 = .ok (.iconst (-1), 1) := by decide +kernel
theorem dX10_page_22 : decode cX10_page 22 = .ok (.ireturn, 1) := by decide +kernel
theorem dX10_page_23 : decode cX10_page 23 = .ok (.iload_n 3, 1) := by decide +kernel
theorem dX10_page_24 : decode cX10_page 24 = .ok (.ifCond .ne 11, 3) := by decide +kernel
theorem dX10_page_27 : decode cX10_page 27 = .ok (.aload 4, 2) := by decide +kernel
theorem dX10_page_29 : decode cX10_page 29 = .ok (.iload_n 2, 1) := by decide +kernel
theorem dX10_page_30 : decode cX10_page 30 = .ok (.invokevirtual 223, 3) := by decide +kernel
theorem dX10_page_33 : decode cX10_page 33 = .ok (.l2i, 1) := by decide +kernel
theorem dX10_page_34 : decode cX10_page 34 = .ok (.ireturn, 1) := by decide +kernel
theorem dX10_page_35 : decode cX10_page 35 = .ok (.iload_n 3, 1) := by decide +kernel
theorem dX10_page_36 : decode cX10_page 36 = .ok (.iconst 1, 1) := by decide +kernel
theorem dX10_page_37 : decode cX10_page 37 = .ok (.if_icmp .ne 25, 3) := by decide +kernel
theorem dX10_page_40 : decode cX10_page 40 = .ok (.aload 4, 2) := by decide +kernel
theorem dX10_page_42 : decode cX10_page 42 = .ok (.iload_n 2, 1) := by decide +kernel
theorem dX10_page_43 : decode cX10_page 43 = .ok (.aload 4, 2) := by decide +kernel
theorem dX10_page_45 : decode cX10_page 45 = .ok (.getfield 227, 3) := by decide +kernel
theorem dX10_page_48 : decode cX10_page 48 = .ok (.iload_n 2, 1) := by decide +kernel
theorem dX10_page_49 : decode cX10_page 49 = .ok (.iaload, 1) := by decide +kernel
theorem dX10_page_50 : decode cX10_page 50 = .ok (.aload 4, 2) := by decide +kernel
theorem dX10_page_52 : decode cX10_page 52 = .ok (.getfield 229, 3) := by decide +kernel
theorem dX10_page_55 : decode cX10_page 55 = .ok (.iload_n 2, 1) := by decide +kernel
theorem dX10_page_56 : decode cX10_page 56 = .ok (.iaload, 1) := by decide +kernel
theorem dX10_page_57 : decode cX10_page 57 = .ok (.invokevirtual 231, 3) := by decide +kernel
theorem dX10_page_60 : decode cX10_page 60 = .ok (.l2i, 1) := by decide +kernel
theorem dX10_page_61 : decode cX10_page 61 = .ok (.ireturn, 1) := by decide +kernel
theorem dX10_page_62 : decode cX10_page 62 = .ok (.iconst (-1), 1) := by decide +kernel
theorem dX10_page_63 : decode cX10_page 63 = .ok (.ireturn, 1) := by decide +kernel
theorem dX10_sharpest_0 : decode cX10_sharpest 0 = .ok (.aload_n 0, 1) := by decide +kernel
theorem dX10_sharpest_1 : decode cX10_sharpest 1 = .ok (.iload_n 1, 1) := by decide +kernel
theorem dX10_sharpest_2 : decode cX10_sharpest 2 = .ok (.invokevirtual 155, 3) := by decide +kernel
theorem dX10_sharpest_5 : decode cX10_sharpest 5 = .ok (.astore 4, 2) := by decide +kernel
theorem dX10_sharpest_7 : decode cX10_sharpest 7 = .ok (.aload 4, 2) := by decide +kernel
theorem dX10_sharpest_9 : decode cX10_sharpest 9 = .ok (.ifnull 19, 3) := by decide +kernel
theorem dX10_sharpest_12 : decode cX10_sharpest 12 = .ok (.iload_n 2, 1) := by decide +kernel
theorem dX10_sharpest_13 : decode cX10_sharpest 13 = .ok (.invokestatic 212, 3) := by decide +kernel
theorem dX10_sharpest_16 : decode cX10_sharpest 16 = .ok (.ifCond .eq 12, 3) := by decide +kernel
theorem dX10_sharpest_19 : decode cX10_sharpest 19 = .ok (.iload_n 3, 1) := by decide +kernel
theorem dX10_sharpest_20 : decode cX10_sharpest 20 = .ok (.ifCond .lt 8, 3) := by decide +kernel
theorem dX10_sharpest_23 : decode cX10_sharpest 23 = .ok (.iload_n 3, 1) := by decide +kernel
theorem dX10_sharpest_24 : decode cX10_sharpest 24 = .ok (.iconst 1, 1) := by decide +kernel
theorem dX10_sharpest_25 : decode cX10_sharpest 25 = .ok (.if_icmp .le 5, 3) := by decide +kernel
theorem dX10_sharpest_28 : decode cX10_sharpest 28 = .ok (.iconst (-1), 1) := by decide +kernel
theorem dX10_sharpest_29 : decode cX10_sharpest 29 = .ok (.ireturn, 1) := by decide +kernel
theorem dX10_sharpest_30 : decode cX10_sharpest 30 = .ok (.aload_n 0, 1) := by decide +kernel
theorem dX10_sharpest_31 : decode cX10_sharpest 31 = .ok (.getfield 67, 3) := by decide +kernel
theorem dX10_sharpest_34 : decode cX10_sharpest 34 = .ok (.aload 4, 2) := by decide +kernel
theorem dX10_sharpest_36 : decode cX10_sharpest 36 = .ok (.iload_n 2, 1) := by decide +kernel
theorem dX10_sharpest_37 : decode cX10_sharpest 37 = .ok (.invokevirtual 235, 3) := by decide +kernel
theorem dX10_sharpest_40 : decode cX10_sharpest 40 = .ok (.iload_n 3, 1) := by decide +kernel
theorem dX10_sharpest_41 : decode cX10_sharpest 41 = .ok (.ifCond .ne 13, 3) := by decide +kernel
theorem dX10_sharpest_44 : decode cX10_sharpest 44 = .ok (.aload_n 0, 1) := by decide +kernel
theorem dX10_sharpest_45 : decode cX10_sharpest 45 = .ok (.getfield 67, 3) := by decide +kernel
theorem dX10_sharpest_48 : decode cX10_sharpest 48 = .ok (.getfield 238, 3) := by decide +kernel
theorem dX10_sharpest_51 : decode cX10_sharpest 51 = .ok (.goto 11, 3) := by decide +kernel
theorem dX10_sharpest_54 : decode cX10_sharpest 54 = .ok (.aload_n 0, 1) := by decide +kernel
theorem dX10_sharpest_55 : decode cX10_sharpest 55 = .ok (.getfield 67, 3) := by decide +kernel
theorem dX10_sharpest_58 : decode cX10_sharpest 58 = .ok (.getfield 241, 3) := by decide +kernel
theorem dX10_sharpest_61 : decode cX10_sharpest 61 = .ok (.l2i, 1) := by decide +kernel
theorem dX10_sharpest_62 : decode cX10_sharpest 62 = .ok (.ireturn, 1) := by decide +kernel
theorem dX10_list_0 : decode cX10_list 0 = .ok (.iload_n 1, 1) := by decide +kernel
theorem dX10_list_1 : decode cX10_list 1 = .ok (.iconst 1, 1) := by decide +kernel
theorem dX10_list_2 : decode cX10_list 2 = .ok (.if_icmp .lt 25, 3) := by decide +kernel
theorem dX10_list_5 : decode cX10_list 5 = .ok (.iload_n 1, 1) := by decide +kernel
theorem dX10_list_6 : decode cX10_list 6 = .ok (.bipush 50, 2) := by decide +kernel
theorem dX10_list_8 : decode cX10_list 8 = .ok (.if_icmp .gt 19, 3) := by decide +kernel
theorem dX10_list_11 : decode cX10_list 11 = .ok (.aload_n 0, 1) := by decide +kernel
theorem dX10_list_12 : decode cX10_list 12 = .ok (.getfield 244, 3) := by decide +kernel
theorem dX10_list_15 : decode cX10_list 15 = .ok (.iconst 4, 1) := by decide +kernel
theorem dX10_list_16 : decode cX10_list 16 = .ok (.if_icmp .ge 11, 3) := by decide +kernel
theorem dX10_list_19 : decode cX10_list 19 = .ok (.aload_n 0, 1) := by decide +kernel
theorem dX10_list_20 : decode cX10_list 20 = .ok (.iload_n 1, 1) := by decide +kernel
theorem dX10_list_21 : decode cX10_list 21 = .ok (.invokevirtual 247, 3) := by decide +kernel
theorem dX10_list_24 : decode cX10_list 24 = .ok (.ifCond .eq 5, 3) := by decide +kernel
theorem dX10_list_27 : decode cX10_list 27 = .ok (.iconst (-1), 1) := by decide +kernel
theorem dX10_list_28 : decode cX10_list 28 = .ok (.ireturn, 1) := by decide +kernel
theorem dX10_list_29 : decode cX10_list 29 = .ok (.aload_n 0, 1) := by decide +kernel
theorem dX10_list_30 : decode cX10_list 30 = .ok (.getfield 35, 3) := by decide +kernel
theorem dX10_list_33 : decode cX10_list 33 = .ok (.aload_n 0, 1) := by decide +kernel
theorem dX10_list_34 : decode cX10_list 34 = .ok (.getfield 244, 3) := by decide +kernel
theorem dX10_list_37 : decode cX10_list 37 = .ok (.iload_n 1, 1) := by decide +kernel
theorem dX10_list_38 : decode cX10_list 38 = .ok (.iastore, 1) := by decide +kernel
theorem dX10_list_39 : decode cX10_list 39 = .ok (.aload_n 0, 1) := by decide +kernel
theorem dX10_list_40 : decode cX10_list 40 = .ok (.dup, 1) := by decide +kernel
theorem dX10_list_41 : decode cX10_list 41 = .ok (.getfield 244, 3) := by decide +kernel
theorem dX10_list_44 : decode cX10_list 44 = .ok (.iconst 1, 1) := by decide +kernel
theorem dX10_list_45 : decode cX10_list 45 = .ok (.iadd, 1) := by decide +kernel
theorem dX10_list_46 : decode cX10_list 46 = .ok (.putfield 244, 3) := by decide +kernel
theorem dX10_list_49 : decode cX10_list 49 = .ok (.aload_n 0, 1) := by decide +kernel
theorem dX10_list_50 : decode cX10_list 50 = .ok (.getfield 244, 3) := by decide +kernel
theorem dX10_list_53 : decode cX10_list 53 = .ok (.ireturn, 1) := by decide +kernel
theorem dX10_clear_0 : decode cX10_clear 0 = .ok (.aload_n 0, 1) := by decide +kernel
theorem dX10_clear_1 : decode cX10_clear 1 = .ok (.getfield 244, 3) := by decide +kernel
theorem dX10_clear_4 : decode cX10_clear 4 = .ok (.istore_n 1, 1) := by decide +kernel
theorem dX10_clear_5 : decode cX10_clear 5 = .ok (.aload_n 0, 1) := by decide +kernel
theorem dX10_clear_6 : decode cX10_clear 6 = .ok (.iconst 0, 1) := by decide +kernel
theorem dX10_clear_7 : decode cX10_clear 7 = .ok (.putfield 244, 3) := by decide +kernel
theorem dX10_clear_10 : decode cX10_clear 10 = .ok (.iload_n 1, 1) := by decide +kernel
theorem dX10_clear_11 : decode cX10_clear 11 = .ok (.ireturn, 1) := by decide +kernel
theorem dX10_finest_0 : decode cX10_finest 0 = .ok (.aload_n 0, 1) := by decide +kernel
theorem dX10_finest_1 : decode cX10_finest 1 = .ok (.iload_n 1, 1) := by decide +kernel
theorem dX10_finest_2 : decode cX10_finest 2 = .ok (.invokevirtual 155, 3) := by decide +kernel
theorem dX10_finest_5 : decode cX10_finest 5 = .ok (.astore 4, 2) := by decide +kernel
theorem dX10_finest_7 : decode cX10_finest 7 = .ok (.aload 4, 2) := by decide +kernel
theorem dX10_finest_9 : decode cX10_finest 9 = .ok (.ifnull 25, 3) := by decide +kernel
theorem dX10_finest_12 : decode cX10_finest 12 = .ok (.aload 4, 2) := by decide +kernel
theorem dX10_finest_14 : decode cX10_finest 14 = .ok (.iload_n 3, 1) := by decide +kernel
theorem dX10_finest_15 : decode cX10_finest 15 = .ok (.invokevirtual 188, 3) := by decide +kernel
theorem dX10_finest_18 : decode cX10_finest 18 = .ok (.ifCond .eq 16, 3) := by decide +kernel
theorem dX10_finest_21 : decode cX10_finest 21 = .ok (.iload_n 2, 1) := by decide +kernel
theorem dX10_finest_22 : decode cX10_finest 22 = .ok (.bipush 10, 2) := by decide +kernel
theorem dX10_finest_24 : decode cX10_finest 24 = .ok (.if_icmp .lt 10, 3) := by decide +kernel
theorem dX10_finest_27 : decode cX10_finest 27 = .ok (.iload_n 2, 1) := by decide +kernel
theorem dX10_finest_28 : decode cX10_finest 28 = .ok (.sipush 30000, 3) := by decide +kernel
theorem dX10_finest_31 : decode cX10_finest 31 = .ok (.if_icmp .le 5, 3) := by decide +kernel
theorem dX10_finest_34 : decode cX10_finest 34 = .ok (.iconst (-1), 1) := by decide +kernel
theorem dX10_finest_35 : decode cX10_finest 35 = .ok (.ireturn, 1) := by decide +kernel
theorem dX10_finest_36 : decode cX10_finest 36 = .ok (.iconst (-1), 1) := by decide +kernel
theorem dX10_finest_37 : decode cX10_finest 37 = .ok (.istore 5, 2) := by decide +kernel
theorem dX10_finest_39 : decode cX10_finest 39 = .ok (.iconst 0, 1) := by decide +kernel
theorem dX10_finest_40 : decode cX10_finest 40 = .ok (.istore 6, 2) := by decide +kernel
theorem dX10_finest_42 : decode cX10_finest 42 = .ok (.iload 6, 2) := by decide +kernel
theorem dX10_finest_44 : decode cX10_finest 44 = .ok (.aload 4, 2) := by decide +kernel
theorem dX10_finest_46 : decode cX10_finest 46 = .ok (.getfield 250, 3) := by decide +kernel
theorem dX10_finest_49 : decode cX10_finest 49 = .ok (.if_icmp .ge 45, 3) := by decide +kernel
theorem dX10_finest_52 : decode cX10_finest 52 = .ok (.aload 4, 2) := by decide +kernel
theorem dX10_finest_54 : decode cX10_finest 54 = .ok (.iload 6, 2) := by decide +kernel
theorem dX10_finest_56 : decode cX10_finest 56 = .ok (.iload_n 2, 1) := by decide +kernel
theorem dX10_finest_57 : decode cX10_finest 57 = .ok (.aload_n 0, 1) := by decide +kernel
theorem dX10_finest_58 : decode cX10_finest 58 = .ok (.getfield 35, 3) := by decide +kernel
theorem dX10_finest_61 : decode cX10_finest 61 = .ok (.aload_n 0, 1) := by decide +kernel
theorem dX10_finest_62 : decode cX10_finest 62 = .ok (.getfield 244, 3) := by decide +kernel
theorem dX10_finest_65 : decode cX10_finest 65 = .ok (.invokevirtual 253, 3) := by decide +kernel
theorem dX10_finest_68 : decode cX10_finest 68 = .ok (.istore 7, 2) := by decide +kernel
theorem dX10_finest_70 : decode cX10_finest 70 = .ok (.iload 7, 2) := by decide +kernel
theorem dX10_finest_72 : decode cX10_finest 72 = .ok (.iconst (-1), 1) := by decide +kernel
theorem dX10_finest_73 : decode cX10_finest 73 = .ok (.if_icmp .ne 5, 3) := by decide +kernel
theorem dX10_finest_76 : decode cX10_finest 76 = .ok (.iconst (-1), 1) := by decide +kernel
theorem dX10_finest_77 : decode cX10_finest 77 = .ok (.ireturn, 1) := by decide +kernel
theorem dX10_finest_78 : decode cX10_finest 78 = .ok (.iload 6, 2) := by decide +kernel
theorem dX10_finest_80 : decode cX10_finest 80 = .ok (.iload_n 3, 1) := by decide +kernel
theorem dX10_finest_81 : decode cX10_finest 81 = .ok (.if_icmp .ne 7, 3) := by decide +kernel
theorem dX10_finest_84 : decode cX10_finest 84 = .ok (.iload 7, 2) := by decide +kernel
theorem dX10_finest_86 : decode cX10_finest 86 = .ok (.istore 5, 2) := by decide +kernel
theorem dX10_finest_88 : decode cX10_finest 88 = .ok (.iinc 6 1, 3) := by decide +kernel
theorem dX10_finest_91 : decode cX10_finest 91 = .ok (.goto (-49), 3) := by decide +kernel
theorem dX10_finest_94 : decode cX10_finest 94 = .ok (.iload 5, 2) := by decide +kernel
theorem dX10_finest_96 : decode cX10_finest 96 = .ok (.ireturn, 1) := by decide +kernel
theorem dX10_paper_0 : decode cX10_paper 0 = .ok (.aload_n 0, 1) := by decide +kernel
theorem dX10_paper_1 : decode cX10_paper 1 = .ok (.iload_n 1, 1) := by decide +kernel
theorem dX10_paper_2 : decode cX10_paper 2 = .ok (.invokevirtual 155, 3) := by decide +kernel
theorem dX10_paper_5 : decode cX10_paper 5 = .ok (.astore 5, 2) := by decide +kernel
theorem dX10_paper_7 : decode cX10_paper 7 = .ok (.aload 5, 2) := by decide +kernel
theorem dX10_paper_9 : decode cX10_paper 9 = .ok (.ifnull 32, 3) := by decide +kernel
theorem dX10_paper_12 : decode cX10_paper 12 = .ok (.iload_n 2, 1) := by decide +kernel
theorem dX10_paper_13 : decode cX10_paper 13 = .ok (.sipush (-30000), 3) := by decide +kernel
theorem dX10_paper_16 : decode cX10_paper 16 = .ok (.if_icmp .lt 25, 3) := by decide +kernel
theorem dX10_paper_19 : decode cX10_paper 19 = .ok (.iload_n 2, 1) := by decide +kernel
theorem dX10_paper_20 : decode cX10_paper 20 = .ok (.sipush 30000, 3) := by decide +kernel
theorem dX10_paper_23 : decode cX10_paper 23 = .ok (.if_icmp .gt 18, 3) := by decide +kernel
theorem dX10_paper_26 : decode cX10_paper 26 = .ok (.iload_n 3, 1) := by decide +kernel
theorem dX10_paper_27 : decode cX10_paper 27 = .ok (.invokestatic 257, 3) := by decide +kernel
theorem dX10_paper_30 : decode cX10_paper 30 = .ok (.ifCond .eq 11, 3) := by decide +kernel
theorem dX10_paper_33 : decode cX10_paper 33 = .ok (.iload 4, 2) := by decide +kernel
theorem dX10_paper_35 : decode cX10_paper 35 = .ok (.invokestatic 257, 3) := by decide +kernel
theorem dX10_paper_38 : decode cX10_paper 38 = .ok (.ifCond .ne 5, 3) := by decide +kernel
theorem dX10_paper_41 : decode cX10_paper 41 = .ok (.iconst 0, 1) := by decide +kernel
theorem dX10_paper_42 : decode cX10_paper 42 = .ok (.ireturn, 1) := by decide +kernel
theorem dX10_paper_43 : decode cX10_paper 43 = .ok (.aload 5, 2) := by decide +kernel
theorem dX10_paper_45 : decode cX10_paper 45 = .ok (.getfield 260, 3) := by decide +kernel
theorem dX10_paper_48 : decode cX10_paper 48 = .ok (.iload_n 2, 1) := by decide +kernel
theorem dX10_paper_49 : decode cX10_paper 49 = .ok (.iload_n 3, 1) := by decide +kernel
theorem dX10_paper_50 : decode cX10_paper 50 = .ok (.iload 4, 2) := by decide +kernel
theorem dX10_paper_52 : decode cX10_paper 52 = .ok (.invokevirtual 264, 3) := by decide +kernel
theorem dX10_paper_55 : decode cX10_paper 55 = .ok (.aload_n 0, 1) := by decide +kernel
theorem dX10_paper_56 : decode cX10_paper 56 = .ok (.getfield 49, 3) := by decide +kernel
theorem dX10_paper_59 : decode cX10_paper 59 = .ok (.invokevirtual 270, 3) := by decide +kernel
theorem dX10_paper_62 : decode cX10_paper 62 = .ok (.iconst 1, 1) := by decide +kernel
theorem dX10_paper_63 : decode cX10_paper 63 = .ok (.ireturn, 1) := by decide +kernel
theorem dX10_swelled_0 : decode cX10_swelled 0 = .ok (.aload_n 0, 1) := by decide +kernel
theorem dX10_swelled_1 : decode cX10_swelled 1 = .ok (.iload_n 1, 1) := by decide +kernel
theorem dX10_swelled_2 : decode cX10_swelled 2 = .ok (.invokevirtual 155, 3) := by decide +kernel
theorem dX10_swelled_5 : decode cX10_swelled 5 = .ok (.astore 4, 2) := by decide +kernel
theorem dX10_swelled_7 : decode cX10_swelled 7 = .ok (.aload 4, 2) := by decide +kernel
theorem dX10_swelled_9 : decode cX10_swelled 9 = .ok (.ifnull 17, 3) := by decide +kernel
theorem dX10_swelled_12 : decode cX10_swelled 12 = .ok (.iload_n 2, 1) := by decide +kernel
theorem dX10_swelled_13 : decode cX10_swelled 13 = .ok (.ldc_w 273, 3) := by decide +kernel
theorem dX10_swelled_16 : decode cX10_swelled 16 = .ok (.if_icmp .lt 10, 3) := by decide +kernel
theorem dX10_swelled_19 : decode cX10_swelled 19 = .ok (.iload_n 2, 1) := by decide +kernel
theorem dX10_swelled_20 : decode cX10_swelled 20 = .ok (.ldc_w 274, 3) := by decide +kernel
theorem dX10_swelled_23 : decode cX10_swelled 23 = .ok (.if_icmp .le 6, 3) := by decide +kernel
theorem dX10_swelled_26 : decode cX10_swelled 26 = .ok (.ldc 100, 2) := by decide +kernel
theorem dX10_swelled_28 : decode cX10_swelled 28 = .ok (.ireturn, 1) := by decide +kernel
theorem dX10_swelled_29 : decode cX10_swelled 29 = .ok (.iload_n 3, 1) := by decide +kernel
theorem dX10_swelled_30 : decode cX10_swelled 30 = .ok (.ifCond .eq 16, 3) := by decide +kernel
theorem dX10_swelled_33 : decode cX10_swelled 33 = .ok (.aload 4, 2) := by decide +kernel
theorem dX10_swelled_35 : decode cX10_swelled 35 = .ok (.getfield 260, 3) := by decide +kernel
theorem dX10_swelled_38 : decode cX10_swelled 38 = .ok (.iload_n 2, 1) := by decide +kernel
theorem dX10_swelled_39 : decode cX10_swelled 39 = .ok (.i2l, 1) := by decide +kernel
theorem dX10_swelled_40 : decode cX10_swelled 40 = .ok (.invokevirtual 275, 3) := by decide +kernel
theorem dX10_swelled_43 : decode cX10_swelled 43 = .ok (.goto 13, 3) := by decide +kernel
theorem dX10_swelled_46 : decode cX10_swelled 46 = .ok (.aload 4, 2) := by decide +kernel
theorem dX10_swelled_48 : decode cX10_swelled 48 = .ok (.getfield 260, 3) := by decide +kernel
theorem dX10_swelled_51 : decode cX10_swelled 51 = .ok (.iload_n 2, 1) := by decide +kernel
theorem dX10_swelled_52 : decode cX10_swelled 52 = .ok (.i2l, 1) := by decide +kernel
theorem dX10_swelled_53 : decode cX10_swelled 53 = .ok (.invokevirtual 279, 3) := by decide +kernel
theorem dX10_swelled_56 : decode cX10_swelled 56 = .ok (.l2i, 1) := by decide +kernel
theorem dX10_swelled_57 : decode cX10_swelled 57 = .ok (.ireturn, 1) := by decide +kernel
theorem dX10_go_0 : decode cX10_go 0 = .ok (.iload_n 1, 1) := by decide +kernel
theorem dX10_go_1 : decode cX10_go 1 = .ok (.ifCond .lt 9, 3) := by decide +kernel
theorem dX10_go_4 : decode cX10_go 4 = .ok (.iload_n 1, 1) := by decide +kernel
theorem dX10_go_5 : decode cX10_go 5 = .ok (.bipush 50, 2) := by decide +kernel
theorem dX10_go_7 : decode cX10_go 7 = .ok (.if_icmp .le 5, 3) := by decide +kernel
theorem dX10_go_10 : decode cX10_go 10 = .ok (.iconst (-1), 1) := by decide +kernel
theorem dX10_go_11 : decode cX10_go 11 = .ok (.ireturn, 1) := by decide +kernel
theorem dX10_go_12 : decode cX10_go 12 = .ok (.aload_n 0, 1) := by decide +kernel
theorem dX10_go_13 : decode cX10_go 13 = .ok (.aload_n 0, 1) := by decide +kernel
theorem dX10_go_14 : decode cX10_go 14 = .ok (.getfield 169, 3) := by decide +kernel
theorem dX10_go_17 : decode cX10_go 17 = .ok (.iload_n 1, 1) := by decide +kernel
theorem dX10_go_18 : decode cX10_go 18 = .ok (.iadd, 1) := by decide +kernel
theorem dX10_go_19 : decode cX10_go 19 = .ok (.sipush 300, 3) := by decide +kernel
theorem dX10_go_22 : decode cX10_go 22 = .ok (.invokestatic 282, 3) := by decide +kernel
theorem dX10_go_25 : decode cX10_go 25 = .ok (.putfield 169, 3) := by decide +kernel
theorem dX10_go_28 : decode cX10_go 28 = .ok (.aload_n 0, 1) := by decide +kernel
theorem dX10_go_29 : decode cX10_go 29 = .ok (.getfield 169, 3) := by decide +kernel
theorem dX10_go_32 : decode cX10_go 32 = .ok (.ireturn, 1) := by decide +kernel
theorem dX10_move_0 : decode cX10_move 0 = .ok (.aload_n 0, 1) := by decide +kernel
theorem dX10_move_1 : decode cX10_move 1 = .ok (.iload_n 1, 1) := by decide +kernel
theorem dX10_move_2 : decode cX10_move 2 = .ok (.invokevirtual 155, 3) := by decide +kernel
theorem dX10_move_5 : decode cX10_move 5 = .ok (.astore 5, 2) := by decide +kernel
theorem dX10_move_7 : decode cX10_move 7 = .ok (.aload 5, 2) := by decide +kernel
theorem dX10_move_9 : decode cX10_move 9 = .ok (.ifnull 31, 3) := by decide +kernel
theorem dX10_move_12 : decode cX10_move 12 = .ok (.iload_n 2, 1) := by decide +kernel
theorem dX10_move_13 : decode cX10_move 13 = .ok (.iconst 1, 1) := by decide +kernel
theorem dX10_move_14 : decode cX10_move 14 = .ok (.if_icmp .lt 26, 3) := by decide +kernel
theorem dX10_move_17 : decode cX10_move 17 = .ok (.aload 5, 2) := by decide +kernel
theorem dX10_move_19 : decode cX10_move 19 = .ok (.getfield 176, 3) := by decide +kernel
theorem dX10_move_22 : decode cX10_move 22 = .ok (.iload_n 2, 1) := by decide +kernel
theorem dX10_move_23 : decode cX10_move 23 = .ok (.iload_n 3, 1) := by decide +kernel
theorem dX10_move_24 : decode cX10_move 24 = .ok (.invokevirtual 122, 3) := by decide +kernel
theorem dX10_move_27 : decode cX10_move 27 = .ok (.ifCond .eq 13, 3) := by decide +kernel
theorem dX10_move_30 : decode cX10_move 30 = .ok (.aload_n 0, 1) := by decide +kernel
theorem dX10_move_31 : decode cX10_move 31 = .ok (.getfield 42, 3) := by decide +kernel
theorem dX10_move_34 : decode cX10_move 34 = .ok (.invokevirtual 287, 3) := by decide +kernel
theorem dX10_move_37 : decode cX10_move 37 = .ok (.ifCond .eq 5, 3) := by decide +kernel
theorem dX10_move_40 : decode cX10_move 40 = .ok (.iconst (-1), 1) := by decide +kernel
theorem dX10_move_41 : decode cX10_move 41 = .ok (.ireturn, 1) := by decide +kernel
theorem dX10_move_42 : decode cX10_move 42 = .ok (.iload 4, 2) := by decide +kernel
theorem dX10_move_44 : decode cX10_move 44 = .ok (.ldc_w 290, 3) := by decide +kernel
theorem dX10_move_47 : decode cX10_move 47 = .ok (.if_icmp .lt 11, 3) := by decide +kernel
theorem dX10_move_50 : decode cX10_move 50 = .ok (.iload 4, 2) := by decide +kernel
theorem dX10_move_52 : decode cX10_move 52 = .ok (.ldc_w 291, 3) := by decide +kernel
theorem dX10_move_55 : decode cX10_move 55 = .ok (.if_icmp .le 5, 3) := by decide +kernel
theorem dX10_move_58 : decode cX10_move 58 = .ok (.iconst (-1), 1) := by decide +kernel
theorem dX10_move_59 : decode cX10_move 59 = .ok (.ireturn, 1) := by decide +kernel
theorem dX10_move_60 : decode cX10_move 60 = .ok (.aload_n 0, 1) := by decide +kernel
theorem dX10_move_61 : decode cX10_move 61 = .ok (.getfield 42, 3) := by decide +kernel
theorem dX10_move_64 : decode cX10_move 64 = .ok (.iload_n 1, 1) := by decide +kernel
theorem dX10_move_65 : decode cX10_move 65 = .ok (.iload_n 2, 1) := by decide +kernel
theorem dX10_move_66 : decode cX10_move 66 = .ok (.iload_n 3, 1) := by decide +kernel
theorem dX10_move_67 : decode cX10_move 67 = .ok (.iload 4, 2) := by decide +kernel
theorem dX10_move_69 : decode cX10_move 69 = .ok (.aload_n 0, 1) := by decide +kernel
theorem dX10_move_70 : decode cX10_move 70 = .ok (.getfield 169, 3) := by decide +kernel
theorem dX10_move_73 : decode cX10_move 73 = .ok (.invokevirtual 292, 3) := by decide +kernel
theorem dX10_move_76 : decode cX10_move 76 = .ok (.aload_n 0, 1) := by decide +kernel
theorem dX10_move_77 : decode cX10_move 77 = .ok (.getfield 49, 3) := by decide +kernel
theorem dX10_move_80 : decode cX10_move 80 = .ok (.invokevirtual 270, 3) := by decide +kernel
theorem dX10_move_83 : decode cX10_move 83 = .ok (.aload_n 0, 1) := by decide +kernel
theorem dX10_move_84 : decode cX10_move 84 = .ok (.getfield 42, 3) := by decide +kernel
theorem dX10_move_87 : decode cX10_move 87 = .ok (.getfield 295, 3) := by decide +kernel
theorem dX10_move_90 : decode cX10_move 90 = .ok (.ireturn, 1) := by decide +kernel
theorem dX10_report_0 : decode cX10_report 0 = .ok (.aload_n 0, 1) := by decide +kernel
theorem dX10_report_1 : decode cX10_report 1 = .ok (.getfield 162, 3) := by decide +kernel
theorem dX10_report_4 : decode cX10_report 4 = .ok (.astore_n 3, 1) := by decide +kernel
theorem dX10_report_5 : decode cX10_report 5 = .ok (.aload_n 3, 1) := by decide +kernel
theorem dX10_report_6 : decode cX10_report 6 = .ok (.ifnull 31, 3) := by decide +kernel
theorem dX10_report_9 : decode cX10_report 9 = .ok (.iload_n 1, 1) := by decide +kernel
theorem dX10_report_10 : decode cX10_report 10 = .ok (.invokestatic 298, 3) := by decide +kernel
theorem dX10_report_13 : decode cX10_report 13 = .ok (.ifCond .eq 24, 3) := by decide +kernel
theorem dX10_report_16 : decode cX10_report 16 = .ok (.iload_n 2, 1) := by decide +kernel
theorem dX10_report_17 : decode cX10_report 17 = .ok (.ifCond .lt 20, 3) := by decide +kernel
theorem dX10_report_20 : decode cX10_report 20 = .ok (.iload_n 2, 1) := by decide +kernel
theorem dX10_report_21 : decode cX10_report 21 = .ok (.sipush 399, 3) := by decide +kernel
theorem dX10_report_24 : decode cX10_report 24 = .ok (.if_icmp .gt 13, 3) := by decide +kernel
theorem dX10_report_27 : decode cX10_report 27 = .ok (.aload_n 0, 1) := by decide +kernel
theorem dX10_report_28 : decode cX10_report 28 = .ok (.getfield 49, 3) := by decide +kernel
theorem dX10_report_31 : decode cX10_report 31 = .ok (.invokevirtual 301, 3) := by decide +kernel
theorem dX10_report_34 : decode cX10_report 34 = .ok (.ifCond .eq 5, 3) := by decide +kernel
theorem dX10_report_37 : decode cX10_report 37 = .ok (.iconst (-1), 1) := by decide +kernel
theorem dX10_report_38 : decode cX10_report 38 = .ok (.ireturn, 1) := by decide +kernel
theorem dX10_report_39 : decode cX10_report 39 = .ok (.aload_n 0, 1) := by decide +kernel
theorem dX10_report_40 : decode cX10_report 40 = .ok (.getfield 49, 3) := by decide +kernel
theorem dX10_report_43 : decode cX10_report 43 = .ok (.iload_n 1, 1) := by decide +kernel
theorem dX10_report_44 : decode cX10_report 44 = .ok (.aload_n 3, 1) := by decide +kernel
theorem dX10_report_45 : decode cX10_report 45 = .ok (.getfield 302, 3) := by decide +kernel
theorem dX10_report_48 : decode cX10_report 48 = .ok (.aload_n 0, 1) := by decide +kernel
theorem dX10_report_49 : decode cX10_report 49 = .ok (.getfield 166, 3) := by decide +kernel
theorem dX10_report_52 : decode cX10_report 52 = .ok (.iload_n 2, 1) := by decide +kernel
theorem dX10_report_53 : decode cX10_report 53 = .ok (.aload_n 0, 1) := by decide +kernel
theorem dX10_report_54 : decode cX10_report 54 = .ok (.getfield 169, 3) := by decide +kernel
theorem dX10_report_57 : decode cX10_report 57 = .ok (.invokevirtual 305, 3) := by decide +kernel
theorem dX10_report_60 : decode cX10_report 60 = .ok (.aload_n 0, 1) := by decide +kernel
theorem dX10_report_61 : decode cX10_report 61 = .ok (.getfield 49, 3) := by decide +kernel
theorem dX10_report_64 : decode cX10_report 64 = .ok (.getfield 306, 3) := by decide +kernel
theorem dX10_report_67 : decode cX10_report 67 = .ok (.ireturn, 1) := by decide +kernel
theorem dX10_due_0 : decode cX10_due 0 = .ok (.aload_n 0, 1) := by decide +kernel
theorem dX10_due_1 : decode cX10_due 1 = .ok (.getfield 49, 3) := by decide +kernel
theorem dX10_due_4 : decode cX10_due 4 = .ok (.iload_n 1, 1) := by decide +kernel
theorem dX10_due_5 : decode cX10_due 5 = .ok (.invokevirtual 307, 3) := by decide +kernel
theorem dX10_due_8 : decode cX10_due 8 = .ok (.ifCond .eq 10, 3) := by decide +kernel
theorem dX10_due_11 : decode cX10_due 11 = .ok (.iload_n 2, 1) := by decide +kernel
theorem dX10_due_12 : decode cX10_due 12 = .ok (.invokestatic 310, 3) := by decide +kernel
theorem dX10_due_15 : decode cX10_due 15 = .ok (.ifCond .ne 6, 3) := by decide +kernel
theorem dX10_due_18 : decode cX10_due 18 = .ok (.ldc 100, 2) := by decide +kernel
theorem dX10_due_20 : decode cX10_due 20 = .ok (.ireturn, 1) := by decide +kernel
theorem dX10_due_21 : decode cX10_due 21 = .ok (.aload_n 0, 1) := by decide +kernel
theorem dX10_due_22 : decode cX10_due 22 = .ok (.invokevirtual 313, 3) := by decide +kernel
theorem dX10_due_25 : decode cX10_due 25 = .ok (.iload_n 3, 1) := by decide +kernel
theorem dX10_due_26 : decode cX10_due 26 = .ok (.ifCond .ne 13, 3) := by decide +kernel
theorem dX10_due_29 : decode cX10_due 29 = .ok (.aload_n 0, 1) := by decide +kernel
theorem dX10_due_30 : decode cX10_due 30 = .ok (.getfield 49, 3) := by decide +kernel
theorem dX10_due_33 : decode cX10_due 33 = .ok (.getfield 316, 3) := by decide +kernel
theorem dX10_due_36 : decode cX10_due 36 = .ok (.iload_n 1, 1) := by decide +kernel
theorem dX10_due_37 : decode cX10_due 37 = .ok (.iaload, 1) := by decide +kernel
theorem dX10_due_38 : decode cX10_due 38 = .ok (.ireturn, 1) := by decide +kernel
theorem dX10_due_39 : decode cX10_due 39 = .ok (.iload_n 3, 1) := by decide +kernel
theorem dX10_due_40 : decode cX10_due 40 = .ok (.iconst 1, 1) := by decide +kernel
theorem dX10_due_41 : decode cX10_due 41 = .ok (.if_icmp .ne 21, 3) := by decide +kernel
theorem dX10_due_44 : decode cX10_due 44 = .ok (.aload_n 0, 1) := by decide +kernel
theorem dX10_due_45 : decode cX10_due 45 = .ok (.getfield 49, 3) := by decide +kernel
theorem dX10_due_48 : decode cX10_due 48 = .ok (.iload_n 1, 1) := by decide +kernel
theorem dX10_due_49 : decode cX10_due 49 = .ok (.iload_n 2, 1) := by decide +kernel
theorem dX10_due_50 : decode cX10_due 50 = .ok (.invokevirtual 319, 3) := by decide +kernel
theorem dX10_due_53 : decode cX10_due 53 = .ok (.ifCond .eq 7, 3) := by decide +kernel
theorem dX10_due_56 : decode cX10_due 56 = .ok (.iconst 1, 1) := by decide +kernel
theorem dX10_due_57 : decode cX10_due 57 = .ok (.goto 4, 3) := by decide +kernel
theorem dX10_due_60 : decode cX10_due 60 = .ok (.iconst 0, 1) := by decide +kernel
theorem dX10_due_61 : decode cX10_due 61 = .ok (.ireturn, 1) := by decide +kernel
theorem dX10_due_62 : decode cX10_due 62 = .ok (.ldc 100, 2) := by decide +kernel
theorem dX10_due_64 : decode cX10_due 64 = .ok (.ireturn, 1) := by decide +kernel
theorem dX10_habit_0 : decode cX10_habit 0 = .ok (.iload_n 1, 1) := by decide +kernel
theorem dX10_habit_1 : decode cX10_habit 1 = .ok (.invokestatic 298, 3) := by decide +kernel
theorem dX10_habit_4 : decode cX10_habit 4 = .ok (.ifCond .ne 6, 3) := by decide +kernel
theorem dX10_habit_7 : decode cX10_habit 7 = .ok (.ldc 100, 2) := by decide +kernel
theorem dX10_habit_9 : decode cX10_habit 9 = .ok (.ireturn, 1) := by decide +kernel
theorem dX10_habit_10 : decode cX10_habit 10 = .ok (.aload_n 0, 1) := by decide +kernel
theorem dX10_habit_11 : decode cX10_habit 11 = .ok (.invokevirtual 313, 3) := by decide +kernel
theorem dX10_habit_14 : decode cX10_habit 14 = .ok (.aload_n 0, 1) := by decide +kernel
theorem dX10_habit_15 : decode cX10_habit 15 = .ok (.getfield 49, 3) := by decide +kernel
theorem dX10_habit_18 : decode cX10_habit 18 = .ok (.iload_n 1, 1) := by decide +kernel
theorem dX10_habit_19 : decode cX10_habit 19 = .ok (.invokevirtual 322, 3) := by decide +kernel
theorem dX10_habit_22 : decode cX10_habit 22 = .ok (.ireturn, 1) := by decide +kernel
theorem dX10_suspects_0 : decode cX10_suspects 0 = .ok (.aload_n 0, 1) := by decide +kernel
theorem dX10_suspects_1 : decode cX10_suspects 1 = .ok (.iload_n 1, 1) := by decide +kernel
theorem dX10_suspects_2 : decode cX10_suspects 2 = .ok (.invokevirtual 155, 3) := by decide +kernel
theorem dX10_suspects_5 : decode cX10_suspects 5 = .ok (.astore 4, 2) := by decide +kernel
theorem dX10_suspects_7 : decode cX10_suspects 7 = .ok (.aload 4, 2) := by decide +kernel
theorem dX10_suspects_9 : decode cX10_suspects 9 = .ok (.ifnull 14, 3) := by decide +kernel
theorem dX10_suspects_12 : decode cX10_suspects 12 = .ok (.iload_n 2, 1) := by decide +kernel
theorem dX10_suspects_13 : decode cX10_suspects 13 = .ok (.invokestatic 310, 3) := by decide +kernel
theorem dX10_suspects_16 : decode cX10_suspects 16 = .ok (.ifCond .eq 7, 3) := by decide +kernel
theorem dX10_suspects_19 : decode cX10_suspects 19 = .ok (.iload_n 3, 1) := by decide +kernel
theorem dX10_suspects_20 : decode cX10_suspects 20 = .ok (.ifCond .ge 5, 3) := by decide +kernel
theorem dX10_suspects_23 : decode cX10_suspects 23 = .ok (.iconst (-1), 1) := by decide +kernel
theorem dX10_suspects_24 : decode cX10_suspects 24 = .ok (.ireturn, 1) := by decide +kernel
theorem dX10_suspects_25 : decode cX10_suspects 25 = .ok (.aload_n 0, 1) := by decide +kernel
theorem dX10_suspects_26 : decode cX10_suspects 26 = .ok (.invokevirtual 313, 3) := by decide +kernel
theorem dX10_suspects_29 : decode cX10_suspects 29 = .ok (.aload_n 0, 1) := by decide +kernel
theorem dX10_suspects_30 : decode cX10_suspects 30 = .ok (.aload 4, 2) := by decide +kernel
theorem dX10_suspects_32 : decode cX10_suspects 32 = .ok (.iload_n 2, 1) := by decide +kernel
theorem dX10_suspects_33 : decode cX10_suspects 33 = .ok (.invokevirtual 325, 3) := by decide +kernel
theorem dX10_suspects_36 : decode cX10_suspects 36 = .ok (.aload_n 0, 1) := by decide +kernel
theorem dX10_suspects_37 : decode cX10_suspects 37 = .ok (.getfield 74, 3) := by decide +kernel
theorem dX10_suspects_40 : decode cX10_suspects 40 = .ok (.aload 4, 2) := by decide +kernel
theorem dX10_suspects_42 : decode cX10_suspects 42 = .ok (.getfield 328, 3) := by decide +kernel
theorem dX10_suspects_45 : decode cX10_suspects 45 = .ok (.invokevirtual 331, 3) := by decide +kernel
theorem dX10_suspects_48 : decode cX10_suspects 48 = .ok (.ifCond .ne 5, 3) := by decide +kernel
theorem dX10_suspects_51 : decode cX10_suspects 51 = .ok (.iconst (-1), 1) := by decide +kernel
theorem dX10_suspects_52 : decode cX10_suspects 52 = .ok (.ireturn, 1) := by decide +kernel
theorem dX10_suspects_53 : decode cX10_suspects 53 = .ok (.iload_n 3, 1) := by decide +kernel
theorem dX10_suspects_54 : decode cX10_suspects 54 = .ok (.ifCond .ne 11, 3) := by decide +kernel
theorem dX10_suspects_57 : decode cX10_suspects 57 = .ok (.aload_n 0, 1) := by decide +kernel
theorem dX10_suspects_58 : decode cX10_suspects 58 = .ok (.getfield 74, 3) := by decide +kernel
theorem dX10_suspects_61 : decode cX10_suspects 61 = .ok (.getfield 333, 3) := by decide +kernel
theorem dX10_suspects_64 : decode cX10_suspects 64 = .ok (.ireturn, 1) := by decide +kernel
theorem dX10_suspects_65 : decode cX10_suspects 65 = .ok (.iload_n 3, 1) := by decide +kernel
theorem dX10_suspects_66 : decode cX10_suspects 66 = .ok (.iconst 1, 1) := by decide +kernel
theorem dX10_suspects_67 : decode cX10_suspects 67 = .ok (.if_icmp .ne 13, 3) := by decide +kernel
theorem dX10_suspects_70 : decode cX10_suspects 70 = .ok (.aload_n 0, 1) := by decide +kernel
theorem dX10_suspects_71 : decode cX10_suspects 71 = .ok (.getfield 74, 3) := by decide +kernel
theorem dX10_suspects_74 : decode cX10_suspects 74 = .ok (.getfield 336, 3) := by decide +kernel
theorem dX10_suspects_77 : decode cX10_suspects 77 = .ok (.iconst 1, 1) := by decide +kernel
theorem dX10_suspects_78 : decode cX10_suspects 78 = .ok (.isub, 1) := by decide +kernel
theorem dX10_suspects_79 : decode cX10_suspects 79 = .ok (.ireturn, 1) := by decide +kernel
theorem dX10_suspects_80 : decode cX10_suspects 80 = .ok (.aload_n 0, 1) := by decide +kernel
theorem dX10_suspects_81 : decode cX10_suspects 81 = .ok (.getfield 74, 3) := by decide +kernel
theorem dX10_suspects_84 : decode cX10_suspects 84 = .ok (.iload_n 3, 1) := by decide +kernel
theorem dX10_suspects_85 : decode cX10_suspects 85 = .ok (.iconst 2, 1) := by decide +kernel
theorem dX10_suspects_86 : decode cX10_suspects 86 = .ok (.isub, 1) := by decide +kernel
theorem dX10_suspects_87 : decode cX10_suspects 87 = .ok (.invokevirtual 339, 3) := by decide +kernel
theorem dX10_suspects_90 : decode cX10_suspects 90 = .ok (.ireturn, 1) := by decide +kernel
theorem dX10_count_0 : decode cX10_count 0 = .ok (.iload_n 1, 1) := by decide +kernel
theorem dX10_count_1 : decode cX10_count 1 = .ok (.tableswitch 110 0 7 #[47, 52, 57, 62, 70, 78, 83, 91], 47) := by decide +kernel
theorem dX10_count_48 : decode cX10_count 48 = .ok (.aload_n 0, 1) := by decide +kernel
theorem dX10_count_49 : decode cX10_count 49 = .ok (.getfield 169, 3) := by decide +kernel
theorem dX10_count_52 : decode cX10_count 52 = .ok (.ireturn, 1) := by decide +kernel
theorem dX10_count_53 : decode cX10_count 53 = .ok (.aload_n 0, 1) := by decide +kernel
theorem dX10_count_54 : decode cX10_count 54 = .ok (.getfield 90, 3) := by decide +kernel
theorem dX10_count_57 : decode cX10_count 57 = .ok (.ireturn, 1) := by decide +kernel
theorem dX10_count_58 : decode cX10_count 58 = .ok (.aload_n 0, 1) := by decide +kernel
theorem dX10_count_59 : decode cX10_count 59 = .ok (.getfield 130, 3) := by decide +kernel
theorem dX10_count_62 : decode cX10_count 62 = .ok (.ireturn, 1) := by decide +kernel
theorem dX10_count_63 : decode cX10_count 63 = .ok (.aload_n 0, 1) := by decide +kernel
theorem dX10_count_64 : decode cX10_count 64 = .ok (.getfield 42, 3) := by decide +kernel
theorem dX10_count_67 : decode cX10_count 67 = .ok (.getfield 295, 3) := by decide +kernel
theorem dX10_count_70 : decode cX10_count 70 = .ok (.ireturn, 1) := by decide +kernel
theorem dX10_count_71 : decode cX10_count 71 = .ok (.aload_n 0, 1) := by decide +kernel
theorem dX10_count_72 : decode cX10_count 72 = .ok (.getfield 49, 3) := by decide +kernel
theorem dX10_count_75 : decode cX10_count 75 = .ok (.getfield 306, 3) := by decide +kernel
theorem dX10_count_78 : decode cX10_count 78 = .ok (.ireturn, 1) := by decide +kernel
theorem dX10_count_79 : decode cX10_count 79 = .ok (.aload_n 0, 1) := by decide +kernel
theorem dX10_count_80 : decode cX10_count 80 = .ok (.getfield 244, 3) := by decide +kernel
theorem dX10_count_83 : decode cX10_count 83 = .ok (.ireturn, 1) := by decide +kernel
theorem dX10_count_84 : decode cX10_count 84 = .ok (.aload_n 0, 1) := by decide +kernel
theorem dX10_count_85 : decode cX10_count 85 = .ok (.getfield 10, 3) := by decide +kernel
theorem dX10_count_88 : decode cX10_count 88 = .ok (.getfield 78, 3) := by decide +kernel
theorem dX10_count_91 : decode cX10_count 91 = .ok (.ireturn, 1) := by decide +kernel
theorem dX10_count_92 : decode cX10_count 92 = .ok (.aload_n 0, 1) := by decide +kernel
theorem dX10_count_93 : decode cX10_count 93 = .ok (.getfield 162, 3) := by decide +kernel
theorem dX10_count_96 : decode cX10_count 96 = .ok (.ifnonnull 7, 3) := by decide +kernel
theorem dX10_count_99 : decode cX10_count 99 = .ok (.iconst (-1), 1) := by decide +kernel
theorem dX10_count_100 : decode cX10_count 100 = .ok (.goto 10, 3) := by decide +kernel
theorem dX10_count_103 : decode cX10_count 103 = .ok (.aload_n 0, 1) := by decide +kernel
theorem dX10_count_104 : decode cX10_count 104 = .ok (.getfield 162, 3) := by decide +kernel
theorem dX10_count_107 : decode cX10_count 107 = .ok (.getfield 302, 3) := by decide +kernel
theorem dX10_count_110 : decode cX10_count 110 = .ok (.ireturn, 1) := by decide +kernel
theorem dX10_count_111 : decode cX10_count 111 = .ok (.iconst (-1), 1) := by decide +kernel
theorem dX10_count_112 : decode cX10_count 112 = .ok (.ireturn, 1) := by decide +kernel
theorem dX10_ruleAt_0 : decode cX10_ruleAt 0 = .ok (.iload_n 1, 1) := by decide +kernel
theorem dX10_ruleAt_1 : decode cX10_ruleAt 1 = .ok (.ifCond .lt 20, 3) := by decide +kernel
theorem dX10_ruleAt_4 : decode cX10_ruleAt 4 = .ok (.iload_n 1, 1) := by decide +kernel
theorem dX10_ruleAt_5 : decode cX10_ruleAt 5 = .ok (.aload_n 0, 1) := by decide +kernel
theorem dX10_ruleAt_6 : decode cX10_ruleAt 6 = .ok (.getfield 90, 3) := by decide +kernel
theorem dX10_ruleAt_9 : decode cX10_ruleAt 9 = .ok (.if_icmp .ge 12, 3) := by decide +kernel
theorem dX10_ruleAt_12 : decode cX10_ruleAt 12 = .ok (.aload_n 0, 1) := by decide +kernel
theorem dX10_ruleAt_13 : decode cX10_ruleAt 13 = .ok (.getfield 25, 3) := by decide +kernel
theorem dX10_ruleAt_16 : decode cX10_ruleAt 16 = .ok (.iload_n 1, 1) := by decide +kernel
theorem dX10_ruleAt_17 : decode cX10_ruleAt 17 = .ok (.aaload, 1) := by decide +kernel
theorem dX10_ruleAt_18 : decode cX10_ruleAt 18 = .ok (.goto 4, 3) := by decide +kernel
theorem dX10_ruleAt_21 : decode cX10_ruleAt 21 = .ok (.aconst_null, 1) := by decide +kernel
theorem dX10_ruleAt_22 : decode cX10_ruleAt 22 = .ok (.areturn, 1) := by decide +kernel
theorem dX10_chartAt_0 : decode cX10_chartAt 0 = .ok (.iload_n 1, 1) := by decide +kernel
theorem dX10_chartAt_1 : decode cX10_chartAt 1 = .ok (.ifCond .lt 20, 3) := by decide +kernel
theorem dX10_chartAt_4 : decode cX10_chartAt 4 = .ok (.iload_n 1, 1) := by decide +kernel
theorem dX10_chartAt_5 : decode cX10_chartAt 5 = .ok (.aload_n 0, 1) := by decide +kernel
theorem dX10_chartAt_6 : decode cX10_chartAt 6 = .ok (.getfield 130, 3) := by decide +kernel
theorem dX10_chartAt_9 : decode cX10_chartAt 9 = .ok (.if_icmp .ge 12, 3) := by decide +kernel
theorem dX10_chartAt_12 : decode cX10_chartAt 12 = .ok (.aload_n 0, 1) := by decide +kernel
theorem dX10_chartAt_13 : decode cX10_chartAt 13 = .ok (.getfield 31, 3) := by decide +kernel
theorem dX10_chartAt_16 : decode cX10_chartAt 16 = .ok (.iload_n 1, 1) := by decide +kernel
theorem dX10_chartAt_17 : decode cX10_chartAt 17 = .ok (.aaload, 1) := by decide +kernel
theorem dX10_chartAt_18 : decode cX10_chartAt 18 = .ok (.goto 4, 3) := by decide +kernel
theorem dX10_chartAt_21 : decode cX10_chartAt 21 = .ok (.aconst_null, 1) := by decide +kernel
theorem dX10_chartAt_22 : decode cX10_chartAt 22 = .ok (.areturn, 1) := by decide +kernel
theorem dX10_isListed_0 : decode cX10_isListed 0 = .ok (.iconst 0, 1) := by decide +kernel
theorem dX10_isListed_1 : decode cX10_isListed 1 = .ok (.istore_n 2, 1) := by decide +kernel
theorem dX10_isListed_2 : decode cX10_isListed 2 = .ok (.iload_n 2, 1) := by decide +kernel
theorem dX10_isListed_3 : decode cX10_isListed 3 = .ok (.aload_n 0, 1) := by decide +kernel
theorem dX10_isListed_4 : decode cX10_isListed 4 = .ok (.getfield 244, 3) := by decide +kernel
theorem dX10_isListed_7 : decode cX10_isListed 7 = .ok (.if_icmp .ge 21, 3) := by decide +kernel
theorem dX10_isListed_10 : decode cX10_isListed 10 = .ok (.aload_n 0, 1) := by decide +kernel
theorem dX10_isListed_11 : decode cX10_isListed 11 = .ok (.getfield 35, 3) := by decide +kernel
theorem dX10_isListed_14 : decode cX10_isListed 14 = .ok (.iload_n 2, 1) := by decide +kernel
theorem dX10_isListed_15 : decode cX10_isListed 15 = .ok (.iaload, 1) := by decide +kernel
theorem dX10_isListed_16 : decode cX10_isListed 16 = .ok (.iload_n 1, 1) := by decide +kernel
theorem dX10_isListed_17 : decode cX10_isListed 17 = .ok (.if_icmp .ne 5, 3) := by decide +kernel
theorem dX10_isListed_20 : decode cX10_isListed 20 = .ok (.iconst 1, 1) := by decide +kernel
theorem dX10_isListed_21 : decode cX10_isListed 21 = .ok (.ireturn, 1) := by decide +kernel
theorem dX10_isListed_22 : decode cX10_isListed 22 = .ok (.iinc 2 1, 3) := by decide +kernel
theorem dX10_isListed_25 : decode cX10_isListed 25 = .ok (.goto (-23), 3) := by decide +kernel
theorem dX10_isListed_28 : decode cX10_isListed 28 = .ok (.iconst 0, 1) := by decide +kernel
theorem dX10_isListed_29 : decode cX10_isListed 29 = .ok (.ireturn, 1) := by decide +kernel
theorem dX10_layAsKnown_0 : decode cX10_layAsKnown 0 = .ok (.iconst 0, 1) := by decide +kernel
theorem dX10_layAsKnown_1 : decode cX10_layAsKnown 1 = .ok (.istore 4, 2) := by decide +kernel
theorem dX10_layAsKnown_3 : decode cX10_layAsKnown 3 = .ok (.iload 4, 2) := by decide +kernel
theorem dX10_layAsKnown_5 : decode cX10_layAsKnown 5 = .ok (.aload_n 1, 1) := by decide +kernel
theorem dX10_layAsKnown_6 : decode cX10_layAsKnown 6 = .ok (.getfield 328, 3) := by decide +kernel
theorem dX10_layAsKnown_9 : decode cX10_layAsKnown 9 = .ok (.if_icmp .ge 77, 3) := by decide +kernel
theorem dX10_layAsKnown_12 : decode cX10_layAsKnown 12 = .ok (.aload_n 1, 1) := by decide +kernel
theorem dX10_layAsKnown_13 : decode cX10_layAsKnown 13 = .ok (.getfield 342, 3) := by decide +kernel
theorem dX10_layAsKnown_16 : decode cX10_layAsKnown 16 = .ok (.iload 4, 2) := by decide +kernel
theorem dX10_layAsKnown_18 : decode cX10_layAsKnown 18 = .ok (.iaload, 1) := by decide +kernel
theorem dX10_layAsKnown_19 : decode cX10_layAsKnown 19 = .ok (.istore 5, 2) := by decide +kernel
theorem dX10_layAsKnown_21 : decode cX10_layAsKnown 21 = .ok (.aload_n 1, 1) := by decide +kernel
theorem dX10_layAsKnown_22 : decode cX10_layAsKnown 22 = .ok (.iload_n 2, 1) := by decide +kernel
theorem dX10_layAsKnown_23 : decode cX10_layAsKnown 23 = .ok (.iload 4, 2) := by decide +kernel
theorem dX10_layAsKnown_25 : decode cX10_layAsKnown 25 = .ok (.invokevirtual 345, 3) := by decide +kernel
theorem dX10_layAsKnown_28 : decode cX10_layAsKnown 28 = .ok (.istore 6, 2) := by decide +kernel
theorem dX10_layAsKnown_30 : decode cX10_layAsKnown 30 = .ok (.aload_n 0, 1) := by decide +kernel
theorem dX10_layAsKnown_31 : decode cX10_layAsKnown 31 = .ok (.getfield 42, 3) := by decide +kernel
theorem dX10_layAsKnown_34 : decode cX10_layAsKnown 34 = .ok (.iload_n 3, 1) := by decide +kernel
theorem dX10_layAsKnown_35 : decode cX10_layAsKnown 35 = .ok (.aload_n 1, 1) := by decide +kernel
theorem dX10_layAsKnown_36 : decode cX10_layAsKnown 36 = .ok (.getfield 302, 3) := by decide +kernel
theorem dX10_layAsKnown_39 : decode cX10_layAsKnown 39 = .ok (.iload 5, 2) := by decide +kernel
theorem dX10_layAsKnown_41 : decode cX10_layAsKnown 41 = .ok (.iload 6, 2) := by decide +kernel
theorem dX10_layAsKnown_43 : decode cX10_layAsKnown 43 = .ok (.invokevirtual 348, 3) := by decide +kernel
theorem dX10_layAsKnown_46 : decode cX10_layAsKnown 46 = .ok (.istore 7, 2) := by decide +kernel
theorem dX10_layAsKnown_48 : decode cX10_layAsKnown 48 = .ok (.aload_n 0, 1) := by decide +kernel
theorem dX10_layAsKnown_49 : decode cX10_layAsKnown 49 = .ok (.getfield 53, 3) := by decide +kernel
theorem dX10_layAsKnown_52 : decode cX10_layAsKnown 52 = .ok (.iload 4, 2) := by decide +kernel
theorem dX10_layAsKnown_54 : decode cX10_layAsKnown 54 = .ok (.iload 7, 2) := by decide +kernel
theorem dX10_layAsKnown_56 : decode cX10_layAsKnown 56 = .ok (.ldc 100, 2) := by decide +kernel
theorem dX10_layAsKnown_58 : decode cX10_layAsKnown 58 = .ok (.if_icmp .ne 18, 3) := by decide +kernel
theorem dX10_layAsKnown_61 : decode cX10_layAsKnown 61 = .ok (.aload_n 1, 1) := by decide +kernel
theorem dX10_layAsKnown_62 : decode cX10_layAsKnown 62 = .ok (.getfield 176, 3) := by decide +kernel
theorem dX10_layAsKnown_65 : decode cX10_layAsKnown 65 = .ok (.iload 5, 2) := by decide +kernel
theorem dX10_layAsKnown_67 : decode cX10_layAsKnown 67 = .ok (.iload 6, 2) := by decide +kernel
theorem dX10_layAsKnown_69 : decode cX10_layAsKnown 69 = .ok (.invokevirtual 352, 3) := by decide +kernel
theorem dX10_layAsKnown_72 : decode cX10_layAsKnown 72 = .ok (.i2l, 1) := by decide +kernel
theorem dX10_layAsKnown_73 : decode cX10_layAsKnown 73 = .ok (.goto 6, 3) := by decide +kernel
theorem dX10_layAsKnown_76 : decode cX10_layAsKnown 76 = .ok (.iload 7, 2) := by decide +kernel
theorem dX10_layAsKnown_78 : decode cX10_layAsKnown 78 = .ok (.i2l, 1) := by decide +kernel
theorem dX10_layAsKnown_79 : decode cX10_layAsKnown 79 = .ok (.lastore, 1) := by decide +kernel
theorem dX10_layAsKnown_80 : decode cX10_layAsKnown 80 = .ok (.iinc 4 1, 3) := by decide +kernel
theorem dX10_layAsKnown_83 : decode cX10_layAsKnown 83 = .ok (.goto (-80), 3) := by decide +kernel
theorem dX10_layAsKnown_86 : decode cX10_layAsKnown 86 = .ok (.return_, 1) := by decide +kernel
theorem dX10_layAsCut_0 : decode cX10_layAsCut 0 = .ok (.iconst 0, 1) := by decide +kernel
theorem dX10_layAsCut_1 : decode cX10_layAsCut 1 = .ok (.istore_n 3, 1) := by decide +kernel
theorem dX10_layAsCut_2 : decode cX10_layAsCut 2 = .ok (.iload_n 3, 1) := by decide +kernel
theorem dX10_layAsCut_3 : decode cX10_layAsCut 3 = .ok (.aload_n 1, 1) := by decide +kernel
theorem dX10_layAsCut_4 : decode cX10_layAsCut 4 = .ok (.getfield 328, 3) := by decide +kernel
theorem dX10_layAsCut_7 : decode cX10_layAsCut 7 = .ok (.if_icmp .ge 35, 3) := by decide +kernel
theorem dX10_layAsCut_10 : decode cX10_layAsCut 10 = .ok (.aload_n 0, 1) := by decide +kernel
theorem dX10_layAsCut_11 : decode cX10_layAsCut 11 = .ok (.getfield 53, 3) := by decide +kernel
theorem dX10_layAsCut_14 : decode cX10_layAsCut 14 = .ok (.iload_n 3, 1) := by decide +kernel
theorem dX10_layAsCut_15 : decode cX10_layAsCut 15 = .ok (.aload_n 1, 1) := by decide +kernel
theorem dX10_layAsCut_16 : decode cX10_layAsCut 16 = .ok (.getfield 176, 3) := by decide +kernel
theorem dX10_layAsCut_19 : decode cX10_layAsCut 19 = .ok (.aload_n 1, 1) := by decide +kernel
theorem dX10_layAsCut_20 : decode cX10_layAsCut 20 = .ok (.getfield 342, 3) := by decide +kernel
theorem dX10_layAsCut_23 : decode cX10_layAsCut 23 = .ok (.iload_n 3, 1) := by decide +kernel
theorem dX10_layAsCut_24 : decode cX10_layAsCut 24 = .ok (.iaload, 1) := by decide +kernel
theorem dX10_layAsCut_25 : decode cX10_layAsCut 25 = .ok (.aload_n 1, 1) := by decide +kernel
theorem dX10_layAsCut_26 : decode cX10_layAsCut 26 = .ok (.iload_n 2, 1) := by decide +kernel
theorem dX10_layAsCut_27 : decode cX10_layAsCut 27 = .ok (.iload_n 3, 1) := by decide +kernel
theorem dX10_layAsCut_28 : decode cX10_layAsCut 28 = .ok (.invokevirtual 345, 3) := by decide +kernel
theorem dX10_layAsCut_31 : decode cX10_layAsCut 31 = .ok (.invokevirtual 352, 3) := by decide +kernel
theorem dX10_layAsCut_34 : decode cX10_layAsCut 34 = .ok (.i2l, 1) := by decide +kernel
theorem dX10_layAsCut_35 : decode cX10_layAsCut 35 = .ok (.lastore, 1) := by decide +kernel
theorem dX10_layAsCut_36 : decode cX10_layAsCut 36 = .ok (.iinc 3 1, 3) := by decide +kernel
theorem dX10_layAsCut_39 : decode cX10_layAsCut 39 = .ok (.goto (-37), 3) := by decide +kernel
theorem dX10_layAsCut_42 : decode cX10_layAsCut 42 = .ok (.return_, 1) := by decide +kernel
theorem dX10_readAsKnown_0 : decode cX10_readAsKnown 0 = .ok (.aload_n 0, 1) := by decide +kernel
theorem dX10_readAsKnown_1 : decode cX10_readAsKnown 1 = .ok (.aload_n 1, 1) := by decide +kernel
theorem dX10_readAsKnown_2 : decode cX10_readAsKnown 2 = .ok (.iload_n 2, 1) := by decide +kernel
theorem dX10_readAsKnown_3 : decode cX10_readAsKnown 3 = .ok (.iload_n 3, 1) := by decide +kernel
theorem dX10_readAsKnown_4 : decode cX10_readAsKnown 4 = .ok (.invokevirtual 191, 3) := by decide +kernel
theorem dX10_readAsKnown_7 : decode cX10_readAsKnown 7 = .ok (.aload_n 0, 1) := by decide +kernel
theorem dX10_readAsKnown_8 : decode cX10_readAsKnown 8 = .ok (.getfield 60, 3) := by decide +kernel
theorem dX10_readAsKnown_11 : decode cX10_readAsKnown 11 = .ok (.aload_n 1, 1) := by decide +kernel
theorem dX10_readAsKnown_12 : decode cX10_readAsKnown 12 = .ok (.aload_n 0, 1) := by decide +kernel
theorem dX10_readAsKnown_13 : decode cX10_readAsKnown 13 = .ok (.getfield 53, 3) := by decide +kernel
theorem dX10_readAsKnown_16 : decode cX10_readAsKnown 16 = .ok (.aload_n 1, 1) := by decide +kernel
theorem dX10_readAsKnown_17 : decode cX10_readAsKnown 17 = .ok (.getfield 250, 3) := by decide +kernel
theorem dX10_readAsKnown_20 : decode cX10_readAsKnown 20 = .ok (.iconst 1, 1) := by decide +kernel
theorem dX10_readAsKnown_21 : decode cX10_readAsKnown 21 = .ok (.isub, 1) := by decide +kernel
theorem dX10_readAsKnown_22 : decode cX10_readAsKnown 22 = .ok (.invokevirtual 195, 3) := by decide +kernel
theorem dX10_readAsKnown_25 : decode cX10_readAsKnown 25 = .ok (.aload_n 0, 1) := by decide +kernel
theorem dX10_readAsKnown_26 : decode cX10_readAsKnown 26 = .ok (.getfield 60, 3) := by decide +kernel
theorem dX10_readAsKnown_29 : decode cX10_readAsKnown 29 = .ok (.getfield 209, 3) := by decide +kernel
theorem dX10_readAsKnown_32 : decode cX10_readAsKnown 32 = .ok (.aload_n 1, 1) := by decide +kernel
theorem dX10_readAsKnown_33 : decode cX10_readAsKnown 33 = .ok (.getfield 176, 3) := by decide +kernel
theorem dX10_readAsKnown_36 : decode cX10_readAsKnown 36 = .ok (.getfield 104, 3) := by decide +kernel
theorem dX10_readAsKnown_39 : decode cX10_readAsKnown 39 = .ok (.i2l, 1) := by decide +kernel
theorem dX10_readAsKnown_40 : decode cX10_readAsKnown 40 = .ok (.ladd, 1) := by decide +kernel
theorem dX10_readAsKnown_41 : decode cX10_readAsKnown 41 = .ok (.lreturn, 1) := by decide +kernel
theorem dX10_exactSum_0 : decode cX10_exactSum 0 = .ok (.aload_n 0, 1) := by decide +kernel
theorem dX10_exactSum_1 : decode cX10_exactSum 1 = .ok (.aload_n 1, 1) := by decide +kernel
theorem dX10_exactSum_2 : decode cX10_exactSum 2 = .ok (.aload_n 0, 1) := by decide +kernel
theorem dX10_exactSum_3 : decode cX10_exactSum 3 = .ok (.getfield 166, 3) := by decide +kernel
theorem dX10_exactSum_6 : decode cX10_exactSum 6 = .ok (.invokevirtual 215, 3) := by decide +kernel
theorem dX10_exactSum_9 : decode cX10_exactSum 9 = .ok (.aload_n 1, 1) := by decide +kernel
theorem dX10_exactSum_10 : decode cX10_exactSum 10 = .ok (.getfield 176, 3) := by decide +kernel
theorem dX10_exactSum_13 : decode cX10_exactSum 13 = .ok (.getfield 104, 3) := by decide +kernel
theorem dX10_exactSum_16 : decode cX10_exactSum 16 = .ok (.i2l, 1) := by decide +kernel
theorem dX10_exactSum_17 : decode cX10_exactSum 17 = .ok (.lstore_n 2, 1) := by decide +kernel
theorem dX10_exactSum_18 : decode cX10_exactSum 18 = .ok (.iconst 0, 1) := by decide +kernel
theorem dX10_exactSum_19 : decode cX10_exactSum 19 = .ok (.istore 4, 2) := by decide +kernel
theorem dX10_exactSum_21 : decode cX10_exactSum 21 = .ok (.iload 4, 2) := by decide +kernel
theorem dX10_exactSum_23 : decode cX10_exactSum 23 = .ok (.aload_n 1, 1) := by decide +kernel
theorem dX10_exactSum_24 : decode cX10_exactSum 24 = .ok (.getfield 328, 3) := by decide +kernel
theorem dX10_exactSum_27 : decode cX10_exactSum 27 = .ok (.if_icmp .ge 19, 3) := by decide +kernel
theorem dX10_exactSum_30 : decode cX10_exactSum 30 = .ok (.lload_n 2, 1) := by decide +kernel
theorem dX10_exactSum_31 : decode cX10_exactSum 31 = .ok (.aload_n 0, 1) := by decide +kernel
theorem dX10_exactSum_32 : decode cX10_exactSum 32 = .ok (.getfield 53, 3) := by decide +kernel
theorem dX10_exactSum_35 : decode cX10_exactSum 35 = .ok (.iload 4, 2) := by decide +kernel
theorem dX10_exactSum_37 : decode cX10_exactSum 37 = .ok (.laload, 1) := by decide +kernel
theorem dX10_exactSum_38 : decode cX10_exactSum 38 = .ok (.ladd, 1) := by decide +kernel
theorem dX10_exactSum_39 : decode cX10_exactSum 39 = .ok (.lstore_n 2, 1) := by decide +kernel
theorem dX10_exactSum_40 : decode cX10_exactSum 40 = .ok (.iinc 4 1, 3) := by decide +kernel
theorem dX10_exactSum_43 : decode cX10_exactSum 43 = .ok (.goto (-22), 3) := by decide +kernel
theorem dX10_exactSum_46 : decode cX10_exactSum 46 = .ok (.lload_n 2, 1) := by decide +kernel
theorem dX10_exactSum_47 : decode cX10_exactSum 47 = .ok (.l2i, 1) := by decide +kernel
theorem dX10_exactSum_48 : decode cX10_exactSum 48 = .ok (.ireturn, 1) := by decide +kernel
theorem dX10_refreshDues_0 : decode cX10_refreshDues 0 = .ok (.aload_n 0, 1) := by decide +kernel
theorem dX10_refreshDues_1 : decode cX10_refreshDues 1 = .ok (.getfield 49, 3) := by decide +kernel
theorem dX10_refreshDues_4 : decode cX10_refreshDues 4 = .ok (.getfield 355, 3) := by decide +kernel
theorem dX10_refreshDues_7 : decode cX10_refreshDues 7 = .ok (.istore_n 1, 1) := by decide +kernel
theorem dX10_refreshDues_8 : decode cX10_refreshDues 8 = .ok (.iload_n 1, 1) := by decide +kernel
theorem dX10_refreshDues_9 : decode cX10_refreshDues 9 = .ok (.aload_n 0, 1) := by decide +kernel
theorem dX10_refreshDues_10 : decode cX10_refreshDues 10 = .ok (.getfield 49, 3) := by decide +kernel
theorem dX10_refreshDues_13 : decode cX10_refreshDues 13 = .ok (.getfield 306, 3) := by decide +kernel
theorem dX10_refreshDues_16 : decode cX10_refreshDues 16 = .ok (.if_icmp .ge 70, 3) := by decide +kernel
theorem dX10_refreshDues_19 : decode cX10_refreshDues 19 = .ok (.aload_n 0, 1) := by decide +kernel
theorem dX10_refreshDues_20 : decode cX10_refreshDues 20 = .ok (.aload_n 0, 1) := by decide +kernel
theorem dX10_refreshDues_21 : decode cX10_refreshDues 21 = .ok (.getfield 49, 3) := by decide +kernel
theorem dX10_refreshDues_24 : decode cX10_refreshDues 24 = .ok (.getfield 358, 3) := by decide +kernel
theorem dX10_refreshDues_27 : decode cX10_refreshDues 27 = .ok (.iload_n 1, 1) := by decide +kernel
theorem dX10_refreshDues_28 : decode cX10_refreshDues 28 = .ok (.iaload, 1) := by decide +kernel
theorem dX10_refreshDues_29 : decode cX10_refreshDues 29 = .ok (.invokevirtual 155, 3) := by decide +kernel
theorem dX10_refreshDues_32 : decode cX10_refreshDues 32 = .ok (.astore_n 2, 1) := by decide +kernel
theorem dX10_refreshDues_33 : decode cX10_refreshDues 33 = .ok (.aload_n 0, 1) := by decide +kernel
theorem dX10_refreshDues_34 : decode cX10_refreshDues 34 = .ok (.getfield 49, 3) := by decide +kernel
theorem dX10_refreshDues_37 : decode cX10_refreshDues 37 = .ok (.getfield 316, 3) := by decide +kernel
theorem dX10_refreshDues_40 : decode cX10_refreshDues 40 = .ok (.iload_n 1, 1) := by decide +kernel
theorem dX10_refreshDues_41 : decode cX10_refreshDues 41 = .ok (.aload_n 2, 1) := by decide +kernel
theorem dX10_refreshDues_42 : decode cX10_refreshDues 42 = .ok (.ifnonnull 7, 3) := by decide +kernel
theorem dX10_refreshDues_45 : decode cX10_refreshDues 45 = .ok (.iconst (-1), 1) := by decide +kernel
theorem dX10_refreshDues_46 : decode cX10_refreshDues 46 = .ok (.goto 33, 3) := by decide +kernel
theorem dX10_refreshDues_49 : decode cX10_refreshDues 49 = .ok (.aload_n 2, 1) := by decide +kernel
theorem dX10_refreshDues_50 : decode cX10_refreshDues 50 = .ok (.getfield 176, 3) := by decide +kernel
theorem dX10_refreshDues_53 : decode cX10_refreshDues 53 = .ok (.aload_n 0, 1) := by decide +kernel
theorem dX10_refreshDues_54 : decode cX10_refreshDues 54 = .ok (.aload_n 2, 1) := by decide +kernel
theorem dX10_refreshDues_55 : decode cX10_refreshDues 55 = .ok (.aload_n 0, 1) := by decide +kernel
theorem dX10_refreshDues_56 : decode cX10_refreshDues 56 = .ok (.getfield 49, 3) := by decide +kernel
theorem dX10_refreshDues_59 : decode cX10_refreshDues 59 = .ok (.getfield 360, 3) := by decide +kernel
theorem dX10_refreshDues_62 : decode cX10_refreshDues 62 = .ok (.iload_n 1, 1) := by decide +kernel
theorem dX10_refreshDues_63 : decode cX10_refreshDues 63 = .ok (.iaload, 1) := by decide +kernel
theorem dX10_refreshDues_64 : decode cX10_refreshDues 64 = .ok (.aload_n 0, 1) := by decide +kernel
theorem dX10_refreshDues_65 : decode cX10_refreshDues 65 = .ok (.getfield 49, 3) := by decide +kernel
theorem dX10_refreshDues_68 : decode cX10_refreshDues 68 = .ok (.getfield 363, 3) := by decide +kernel
theorem dX10_refreshDues_71 : decode cX10_refreshDues 71 = .ok (.iload_n 1, 1) := by decide +kernel
theorem dX10_refreshDues_72 : decode cX10_refreshDues 72 = .ok (.iaload, 1) := by decide +kernel
theorem dX10_refreshDues_73 : decode cX10_refreshDues 73 = .ok (.invokevirtual 172, 3) := by decide +kernel
theorem dX10_refreshDues_76 : decode cX10_refreshDues 76 = .ok (.invokevirtual 180, 3) := by decide +kernel
theorem dX10_refreshDues_79 : decode cX10_refreshDues 79 = .ok (.iastore, 1) := by decide +kernel
theorem dX10_refreshDues_80 : decode cX10_refreshDues 80 = .ok (.iinc 1 1, 3) := by decide +kernel
theorem dX10_refreshDues_83 : decode cX10_refreshDues 83 = .ok (.goto (-75), 3) := by decide +kernel
theorem dX10_refreshDues_86 : decode cX10_refreshDues 86 = .ok (.aload_n 0, 1) := by decide +kernel
theorem dX10_refreshDues_87 : decode cX10_refreshDues 87 = .ok (.getfield 49, 3) := by decide +kernel
theorem dX10_refreshDues_90 : decode cX10_refreshDues 90 = .ok (.aload_n 0, 1) := by decide +kernel
theorem dX10_refreshDues_91 : decode cX10_refreshDues 91 = .ok (.getfield 49, 3) := by decide +kernel
theorem dX10_refreshDues_94 : decode cX10_refreshDues 94 = .ok (.getfield 306, 3) := by decide +kernel
theorem dX10_refreshDues_97 : decode cX10_refreshDues 97 = .ok (.putfield 355, 3) := by decide +kernel
theorem dX10_refreshDues_100 : decode cX10_refreshDues 100 = .ok (.return_, 1) := by decide +kernel
theorem dX10_sortReports_0 : decode cX10_sortReports 0 = .ok (.aload_n 0, 1) := by decide +kernel
theorem dX10_sortReports_1 : decode cX10_sortReports 1 = .ok (.getfield 74, 3) := by decide +kernel
theorem dX10_sortReports_4 : decode cX10_sortReports 4 = .ok (.invokevirtual 366, 3) := by decide +kernel
theorem dX10_sortReports_7 : decode cX10_sortReports 7 = .ok (.iconst 0, 1) := by decide +kernel
theorem dX10_sortReports_8 : decode cX10_sortReports 8 = .ok (.istore_n 3, 1) := by decide +kernel
theorem dX10_sortReports_9 : decode cX10_sortReports 9 = .ok (.iload_n 3, 1) := by decide +kernel
theorem dX10_sortReports_10 : decode cX10_sortReports 10 = .ok (.aload_n 0, 1) := by decide +kernel
theorem dX10_sortReports_11 : decode cX10_sortReports 11 = .ok (.getfield 49, 3) := by decide +kernel
theorem dX10_sortReports_14 : decode cX10_sortReports 14 = .ok (.getfield 306, 3) := by decide +kernel
theorem dX10_sortReports_17 : decode cX10_sortReports 17 = .ok (.if_icmp .ge 64, 3) := by decide +kernel
theorem dX10_sortReports_20 : decode cX10_sortReports 20 = .ok (.aload_n 0, 1) := by decide +kernel
theorem dX10_sortReports_21 : decode cX10_sortReports 21 = .ok (.getfield 49, 3) := by decide +kernel
theorem dX10_sortReports_24 : decode cX10_sortReports 24 = .ok (.getfield 358, 3) := by decide +kernel
theorem dX10_sortReports_27 : decode cX10_sortReports 27 = .ok (.iload_n 3, 1) := by decide +kernel
theorem dX10_sortReports_28 : decode cX10_sortReports 28 = .ok (.iaload, 1) := by decide +kernel
theorem dX10_sortReports_29 : decode cX10_sortReports 29 = .ok (.aload_n 1, 1) := by decide +kernel
theorem dX10_sortReports_30 : decode cX10_sortReports 30 = .ok (.getfield 302, 3) := by decide +kernel
theorem dX10_sortReports_33 : decode cX10_sortReports 33 = .ok (.if_icmp .ne 42, 3) := by decide +kernel
theorem dX10_sortReports_36 : decode cX10_sortReports 36 = .ok (.aload_n 0, 1) := by decide +kernel
theorem dX10_sortReports_37 : decode cX10_sortReports 37 = .ok (.getfield 49, 3) := by decide +kernel
theorem dX10_sortReports_40 : decode cX10_sortReports 40 = .ok (.getfield 316, 3) := by decide +kernel
theorem dX10_sortReports_43 : decode cX10_sortReports 43 = .ok (.iload_n 3, 1) := by decide +kernel
theorem dX10_sortReports_44 : decode cX10_sortReports 44 = .ok (.iaload, 1) := by decide +kernel
theorem dX10_sortReports_45 : decode cX10_sortReports 45 = .ok (.iconst (-1), 1) := by decide +kernel
theorem dX10_sortReports_46 : decode cX10_sortReports 46 = .ok (.if_icmp .eq 29, 3) := by decide +kernel
theorem dX10_sortReports_49 : decode cX10_sortReports 49 = .ok (.aload_n 0, 1) := by decide +kernel
theorem dX10_sortReports_50 : decode cX10_sortReports 50 = .ok (.getfield 74, 3) := by decide +kernel
theorem dX10_sortReports_53 : decode cX10_sortReports 53 = .ok (.aload_n 1, 1) := by decide +kernel
theorem dX10_sortReports_54 : decode cX10_sortReports 54 = .ok (.aload_n 0, 1) := by decide +kernel
theorem dX10_sortReports_55 : decode cX10_sortReports 55 = .ok (.getfield 49, 3) := by decide +kernel
theorem dX10_sortReports_58 : decode cX10_sortReports 58 = .ok (.getfield 360, 3) := by decide +kernel
theorem dX10_sortReports_61 : decode cX10_sortReports 61 = .ok (.iload_n 3, 1) := by decide +kernel
theorem dX10_sortReports_62 : decode cX10_sortReports 62 = .ok (.iaload, 1) := by decide +kernel
theorem dX10_sortReports_63 : decode cX10_sortReports 63 = .ok (.aload_n 0, 1) := by decide +kernel
theorem dX10_sortReports_64 : decode cX10_sortReports 64 = .ok (.getfield 49, 3) := by decide +kernel
theorem dX10_sortReports_67 : decode cX10_sortReports 67 = .ok (.iload_n 3, 1) := by decide +kernel
theorem dX10_sortReports_68 : decode cX10_sortReports 68 = .ok (.iload_n 2, 1) := by decide +kernel
theorem dX10_sortReports_69 : decode cX10_sortReports 69 = .ok (.invokevirtual 319, 3) := by decide +kernel
theorem dX10_sortReports_72 : decode cX10_sortReports 72 = .ok (.invokevirtual 369, 3) := by decide +kernel
theorem dX10_sortReports_75 : decode cX10_sortReports 75 = .ok (.iinc 3 1, 3) := by decide +kernel
theorem dX10_sortReports_78 : decode cX10_sortReports 78 = .ok (.goto (-69), 3) := by decide +kernel
theorem dX10_sortReports_81 : decode cX10_sortReports 81 = .ok (.return_, 1) := by decide +kernel
theorem dX10_areModuli_0 : decode cX10_areModuli 0 = .ok (.iload_n 1, 1) := by decide +kernel
theorem dX10_areModuli_1 : decode cX10_areModuli 1 = .ok (.ifCond .ne 13, 3) := by decide +kernel
theorem dX10_areModuli_4 : decode cX10_areModuli 4 = .ok (.iload_n 0, 1) := by decide +kernel
theorem dX10_areModuli_5 : decode cX10_areModuli 5 = .ok (.ifCond .ne 7, 3) := by decide +kernel
theorem dX10_areModuli_8 : decode cX10_areModuli 8 = .ok (.iconst 1, 1) := by decide +kernel
theorem dX10_areModuli_9 : decode cX10_areModuli 9 = .ok (.goto 4, 3) := by decide +kernel
theorem dX10_areModuli_12 : decode cX10_areModuli 12 = .ok (.iconst 0, 1) := by decide +kernel
theorem dX10_areModuli_13 : decode cX10_areModuli 13 = .ok (.ireturn, 1) := by decide +kernel
theorem dX10_areModuli_14 : decode cX10_areModuli 14 = .ok (.iload_n 0, 1) := by decide +kernel
theorem dX10_areModuli_15 : decode cX10_areModuli 15 = .ok (.bipush 100, 2) := by decide +kernel
theorem dX10_areModuli_17 : decode cX10_areModuli 17 = .ok (.idiv, 1) := by decide +kernel
theorem dX10_areModuli_18 : decode cX10_areModuli 18 = .ok (.istore_n 2, 1) := by decide +kernel
theorem dX10_areModuli_19 : decode cX10_areModuli 19 = .ok (.iload_n 0, 1) := by decide +kernel
theorem dX10_areModuli_20 : decode cX10_areModuli 20 = .ok (.bipush 100, 2) := by decide +kernel
theorem dX10_areModuli_22 : decode cX10_areModuli 22 = .ok (.irem, 1) := by decide +kernel
theorem dX10_areModuli_23 : decode cX10_areModuli 23 = .ok (.istore_n 3, 1) := by decide +kernel
theorem dX10_areModuli_24 : decode cX10_areModuli 24 = .ok (.iload_n 2, 1) := by decide +kernel
theorem dX10_areModuli_25 : decode cX10_areModuli 25 = .ok (.iconst 1, 1) := by decide +kernel
theorem dX10_areModuli_26 : decode cX10_areModuli 26 = .ok (.if_icmp .lt 24, 3) := by decide +kernel
theorem dX10_areModuli_29 : decode cX10_areModuli 29 = .ok (.iload_n 2, 1) := by decide +kernel
theorem dX10_areModuli_30 : decode cX10_areModuli 30 = .ok (.bipush 50, 2) := by decide +kernel
theorem dX10_areModuli_32 : decode cX10_areModuli 32 = .ok (.if_icmp .gt 18, 3) := by decide +kernel
theorem dX10_areModuli_35 : decode cX10_areModuli 35 = .ok (.iload_n 3, 1) := by decide +kernel
theorem dX10_areModuli_36 : decode cX10_areModuli 36 = .ok (.iconst 1, 1) := by decide +kernel
theorem dX10_areModuli_37 : decode cX10_areModuli 37 = .ok (.if_icmp .lt 13, 3) := by decide +kernel
theorem dX10_areModuli_40 : decode cX10_areModuli 40 = .ok (.iload_n 3, 1) := by decide +kernel
theorem dX10_areModuli_41 : decode cX10_areModuli 41 = .ok (.bipush 50, 2) := by decide +kernel
theorem dX10_areModuli_43 : decode cX10_areModuli 43 = .ok (.if_icmp .gt 7, 3) := by decide +kernel
theorem dX10_areModuli_46 : decode cX10_areModuli 46 = .ok (.iconst 1, 1) := by decide +kernel
theorem dX10_areModuli_47 : decode cX10_areModuli 47 = .ok (.goto 4, 3) := by decide +kernel
theorem dX10_areModuli_50 : decode cX10_areModuli 50 = .ok (.iconst 0, 1) := by decide +kernel
theorem dX10_areModuli_51 : decode cX10_areModuli 51 = .ok (.ireturn, 1) := by decide +kernel
theorem dX10_isEye_0 : decode cX10_isEye 0 = .ok (.iload_n 0, 1) := by decide +kernel
theorem dX10_isEye_1 : decode cX10_isEye 1 = .ok (.ifCond .lt 13, 3) := by decide +kernel
theorem dX10_isEye_4 : decode cX10_isEye 4 = .ok (.iload_n 0, 1) := by decide +kernel
theorem dX10_isEye_5 : decode cX10_isEye 5 = .ok (.bipush 50, 2) := by decide +kernel
theorem dX10_isEye_7 : decode cX10_isEye 7 = .ok (.if_icmp .gt 7, 3) := by decide +kernel
theorem dX10_isEye_10 : decode cX10_isEye 10 = .ok (.iconst 1, 1) := by decide +kernel
theorem dX10_isEye_11 : decode cX10_isEye 11 = .ok (.goto 4, 3) := by decide +kernel
theorem dX10_isEye_14 : decode cX10_isEye 14 = .ok (.iconst 0, 1) := by decide +kernel
theorem dX10_isEye_15 : decode cX10_isEye 15 = .ok (.ireturn, 1) := by decide +kernel
theorem dX10_isSwelling_0 : decode cX10_isSwelling 0 = .ok (.iload_n 0, 1) := by decide +kernel
theorem dX10_isSwelling_1 : decode cX10_isSwelling 1 = .ok (.bipush (-50), 2) := by decide +kernel
theorem dX10_isSwelling_3 : decode cX10_isSwelling 3 = .ok (.if_icmp .lt 13, 3) := by decide +kernel
theorem dX10_isSwelling_6 : decode cX10_isSwelling 6 = .ok (.iload_n 0, 1) := by decide +kernel
theorem dX10_isSwelling_7 : decode cX10_isSwelling 7 = .ok (.bipush 50, 2) := by decide +kernel
theorem dX10_isSwelling_9 : decode cX10_isSwelling 9 = .ok (.if_icmp .gt 7, 3) := by decide +kernel
theorem dX10_isSwelling_12 : decode cX10_isSwelling 12 = .ok (.iconst 1, 1) := by decide +kernel
theorem dX10_isSwelling_13 : decode cX10_isSwelling 13 = .ok (.goto 4, 3) := by decide +kernel
theorem dX10_isSwelling_16 : decode cX10_isSwelling 16 = .ok (.iconst 0, 1) := by decide +kernel
theorem dX10_isSwelling_17 : decode cX10_isSwelling 17 = .ok (.ireturn, 1) := by decide +kernel
theorem dX10_isReader_0 : decode cX10_isReader 0 = .ok (.iload_n 0, 1) := by decide +kernel
theorem dX10_isReader_1 : decode cX10_isReader 1 = .ok (.ifCond .lt 13, 3) := by decide +kernel
theorem dX10_isReader_4 : decode cX10_isReader 4 = .ok (.iload_n 0, 1) := by decide +kernel
theorem dX10_isReader_5 : decode cX10_isReader 5 = .ok (.bipush 7, 2) := by decide +kernel
theorem dX10_isReader_7 : decode cX10_isReader 7 = .ok (.if_icmp .gt 7, 3) := by decide +kernel
theorem dX10_isReader_10 : decode cX10_isReader 10 = .ok (.iconst 1, 1) := by decide +kernel
theorem dX10_isReader_11 : decode cX10_isReader 11 = .ok (.goto 4, 3) := by decide +kernel
theorem dX10_isReader_14 : decode cX10_isReader 14 = .ok (.iconst 0, 1) := by decide +kernel
theorem dX10_isReader_15 : decode cX10_isReader 15 = .ok (.ireturn, 1) := by decide +kernel
theorem dX10_isBound_0 : decode cX10_isBound 0 = .ok (.iload_n 0, 1) := by decide +kernel
theorem dX10_isBound_1 : decode cX10_isBound 1 = .ok (.ifCond .lt 13, 3) := by decide +kernel
theorem dX10_isBound_4 : decode cX10_isBound 4 = .ok (.iload_n 0, 1) := by decide +kernel
theorem dX10_isBound_5 : decode cX10_isBound 5 = .ok (.bipush 20, 2) := by decide +kernel
theorem dX10_isBound_7 : decode cX10_isBound 7 = .ok (.if_icmp .gt 7, 3) := by decide +kernel
theorem dX10_isBound_10 : decode cX10_isBound 10 = .ok (.iconst 1, 1) := by decide +kernel
theorem dX10_isBound_11 : decode cX10_isBound 11 = .ok (.goto 4, 3) := by decide +kernel
theorem dX10_isBound_14 : decode cX10_isBound 14 = .ok (.iconst 0, 1) := by decide +kernel
theorem dX10_isBound_15 : decode cX10_isBound 15 = .ok (.ireturn, 1) := by decide +kernel
theorem dX10_nearest_0 : decode cX10_nearest 0 = .ok (.lload_n 2, 1) := by decide +kernel
theorem dX10_nearest_1 : decode cX10_nearest 1 = .ok (.lconst 0, 1) := by decide +kernel
theorem dX10_nearest_2 : decode cX10_nearest 2 = .ok (.lcmp, 1) := by decide +kernel
theorem dX10_nearest_3 : decode cX10_nearest 3 = .ok (.ifCond .gt 5, 3) := by decide +kernel
theorem dX10_nearest_6 : decode cX10_nearest 6 = .ok (.lconst 0, 1) := by decide +kernel
theorem dX10_nearest_7 : decode cX10_nearest 7 = .ok (.lreturn, 1) := by decide +kernel
theorem dX10_nearest_8 : decode cX10_nearest 8 = .ok (.ldc2_w 372, 3) := by decide +kernel
theorem dX10_nearest_11 : decode cX10_nearest 11 = .ok (.lload_n 0, 1) := by decide +kernel
theorem dX10_nearest_12 : decode cX10_nearest 12 = .ok (.lmul, 1) := by decide +kernel
theorem dX10_nearest_13 : decode cX10_nearest 13 = .ok (.lload_n 2, 1) := by decide +kernel
theorem dX10_nearest_14 : decode cX10_nearest 14 = .ok (.ladd, 1) := by decide +kernel
theorem dX10_nearest_15 : decode cX10_nearest 15 = .ok (.ldc2_w 372, 3) := by decide +kernel
theorem dX10_nearest_18 : decode cX10_nearest 18 = .ok (.lload_n 2, 1) := by decide +kernel
theorem dX10_nearest_19 : decode cX10_nearest 19 = .ok (.lmul, 1) := by decide +kernel
theorem dX10_nearest_20 : decode cX10_nearest 20 = .ok (.invokestatic 374, 3) := by decide +kernel
theorem dX10_nearest_23 : decode cX10_nearest 23 = .ok (.lreturn, 1) := by decide +kernel
