theorem dX7_init_0 : decode cX7_init 0 = .ok (.aload_n 0, 1) := by decide +kernel
theorem dX7_init_1 : decode cX7_init 1 = .ok (.invokespecial 1, 3) := by decide +kernel
theorem dX7_init_4 : decode cX7_init 4 = .ok (.aload_n 0, 1) := by decide +kernel
theorem dX7_init_5 : decode cX7_init 5 = .ok (.new 7, 3) := by decide +kernel
theorem dX7_init_8 : decode cX7_init 8 = .ok (.dup, 1) := by decide +kernel
theorem dX7_init_9 : decode cX7_init 9 = .ok (.invokespecial 9, 3) := by decide +kernel
theorem dX7_init_12 : decode cX7_init 12 = .ok (.putfield 10, 3) := by decide +kernel
theorem dX7_init_15 : decode cX7_init 15 = .ok (.aload_n 0, 1) := by decide +kernel
theorem dX7_init_16 : decode cX7_init 16 = .ok (.new 16, 3) := by decide +kernel
theorem dX7_init_19 : decode cX7_init 19 = .ok (.dup, 1) := by decide +kernel
theorem dX7_init_20 : decode cX7_init 20 = .ok (.invokespecial 18, 3) := by decide +kernel
theorem dX7_init_23 : decode cX7_init 23 = .ok (.putfield 19, 3) := by decide +kernel
theorem dX7_init_26 : decode cX7_init 26 = .ok (.aload_n 0, 1) := by decide +kernel
theorem dX7_init_27 : decode cX7_init 27 = .ok (.new 23, 3) := by decide +kernel
theorem dX7_init_30 : decode cX7_init 30 = .ok (.dup, 1) := by decide +kernel
theorem dX7_init_31 : decode cX7_init 31 = .ok (.invokespecial 25, 3) := by decide +kernel
theorem dX7_init_34 : decode cX7_init 34 = .ok (.putfield 26, 3) := by decide +kernel
theorem dX7_init_37 : decode cX7_init 37 = .ok (.aload_n 0, 1) := by decide +kernel
theorem dX7_init_38 : decode cX7_init 38 = .ok (.aload_n 0, 1) := by decide +kernel
theorem dX7_init_39 : decode cX7_init 39 = .ok (.getfield 26, 3) := by decide +kernel
theorem dX7_init_42 : decode cX7_init 42 = .ok (.getfield 30, 3) := by decide +kernel
theorem dX7_init_45 : decode cX7_init 45 = .ok (.putfield 34, 3) := by decide +kernel
theorem dX7_init_48 : decode cX7_init 48 = .ok (.aload_n 0, 1) := by decide +kernel
theorem dX7_init_49 : decode cX7_init 49 = .ok (.new 35, 3) := by decide +kernel
theorem dX7_init_52 : decode cX7_init 52 = .ok (.dup, 1) := by decide +kernel
theorem dX7_init_53 : decode cX7_init 53 = .ok (.invokespecial 37, 3) := by decide +kernel
theorem dX7_init_56 : decode cX7_init 56 = .ok (.putfield 38, 3) := by decide +kernel
theorem dX7_init_59 : decode cX7_init 59 = .ok (.aload_n 0, 1) := by decide +kernel
theorem dX7_init_60 : decode cX7_init 60 = .ok (.new 42, 3) := by decide +kernel
theorem dX7_init_63 : decode cX7_init 63 = .ok (.dup, 1) := by decide +kernel
theorem dX7_init_64 : decode cX7_init 64 = .ok (.invokespecial 44, 3) := by decide +kernel
theorem dX7_init_67 : decode cX7_init 67 = .ok (.putfield 45, 3) := by decide +kernel
theorem dX7_init_70 : decode cX7_init 70 = .ok (.aload_n 0, 1) := by decide +kernel
theorem dX7_init_71 : decode cX7_init 71 = .ok (.iconst 2, 1) := by decide +kernel
theorem dX7_init_72 : decode cX7_init 72 = .ok (.anewarray 7, 3) := by decide +kernel
theorem dX7_init_75 : decode cX7_init 75 = .ok (.putfield 49, 3) := by decide +kernel
theorem dX7_init_78 : decode cX7_init 78 = .ok (.aload_n 0, 1) := by decide +kernel
theorem dX7_init_79 : decode cX7_init 79 = .ok (.iconst 2, 1) := by decide +kernel
theorem dX7_init_80 : decode cX7_init 80 = .ok (.newarray .boolean, 2) := by decide +kernel
theorem dX7_init_82 : decode cX7_init 82 = .ok (.putfield 53, 3) := by decide +kernel
theorem dX7_init_85 : decode cX7_init 85 = .ok (.aload_n 0, 1) := by decide +kernel
theorem dX7_init_86 : decode cX7_init 86 = .ok (.iconst 4, 1) := by decide +kernel
theorem dX7_init_87 : decode cX7_init 87 = .ok (.anewarray 57, 3) := by decide +kernel
theorem dX7_init_90 : decode cX7_init 90 = .ok (.putfield 59, 3) := by decide +kernel
theorem dX7_init_93 : decode cX7_init 93 = .ok (.iconst 0, 1) := by decide +kernel
theorem dX7_init_94 : decode cX7_init 94 = .ok (.istore_n 1, 1) := by decide +kernel
theorem dX7_init_95 : decode cX7_init 95 = .ok (.iload_n 1, 1) := by decide +kernel
theorem dX7_init_96 : decode cX7_init 96 = .ok (.iconst 2, 1) := by decide +kernel
theorem dX7_init_97 : decode cX7_init 97 = .ok (.if_icmp .ge 22, 3) := by decide +kernel
theorem dX7_init_100 : decode cX7_init 100 = .ok (.aload_n 0, 1) := by decide +kernel
theorem dX7_init_101 : decode cX7_init 101 = .ok (.getfield 49, 3) := by decide +kernel
theorem dX7_init_104 : decode cX7_init 104 = .ok (.iload_n 1, 1) := by decide +kernel
theorem dX7_init_105 : decode cX7_init 105 = .ok (.new 7, 3) := by decide +kernel
theorem dX7_init_108 : decode cX7_init 108 = .ok (.dup, 1) := by decide +kernel
theorem dX7_init_109 : decode cX7_init 109 = .ok (.invokespecial 9, 3) := by decide +kernel
theorem dX7_init_112 : decode cX7_init 112 = .ok (.aastore, 1) := by decide +kernel
theorem dX7_init_113 : decode cX7_init 113 = .ok (.iinc 1 1, 3) := by decide +kernel
theorem dX7_init_116 : decode cX7_init 116 = .ok (.goto (-21), 3) := by decide +kernel
theorem dX7_init_119 : decode cX7_init 119 = .ok (.iconst 0, 1) := by decide +kernel
theorem dX7_init_120 : decode cX7_init 120 = .ok (.istore_n 1, 1) := by decide +kernel
theorem dX7_init_121 : decode cX7_init 121 = .ok (.iload_n 1, 1) := by decide +kernel
theorem dX7_init_122 : decode cX7_init 122 = .ok (.iconst 4, 1) := by decide +kernel
theorem dX7_init_123 : decode cX7_init 123 = .ok (.if_icmp .ge 22, 3) := by decide +kernel
theorem dX7_init_126 : decode cX7_init 126 = .ok (.aload_n 0, 1) := by decide +kernel
theorem dX7_init_127 : decode cX7_init 127 = .ok (.getfield 59, 3) := by decide +kernel
theorem dX7_init_130 : decode cX7_init 130 = .ok (.iload_n 1, 1) := by decide +kernel
theorem dX7_init_131 : decode cX7_init 131 = .ok (.new 57, 3) := by decide +kernel
theorem dX7_init_134 : decode cX7_init 134 = .ok (.dup, 1) := by decide +kernel
theorem dX7_init_135 : decode cX7_init 135 = .ok (.invokespecial 63, 3) := by decide +kernel
theorem dX7_init_138 : decode cX7_init 138 = .ok (.aastore, 1) := by decide +kernel
theorem dX7_init_139 : decode cX7_init 139 = .ok (.iinc 1 1, 3) := by decide +kernel
theorem dX7_init_142 : decode cX7_init 142 = .ok (.goto (-21), 3) := by decide +kernel
theorem dX7_init_145 : decode cX7_init 145 = .ok (.return_, 1) := by decide +kernel
theorem dX7_feed_0 : decode cX7_feed 0 = .ok (.iload_n 1, 1) := by decide +kernel
theorem dX7_feed_1 : decode cX7_feed 1 = .ok (.iconst 0, 1) := by decide +kernel
theorem dX7_feed_2 : decode cX7_feed 2 = .ok (.bipush 127, 2) := by decide +kernel
theorem dX7_feed_4 : decode cX7_feed 4 = .ok (.invokestatic 64, 3) := by decide +kernel
theorem dX7_feed_7 : decode cX7_feed 7 = .ok (.ifCond .eq 5, 3) := by decide +kernel
theorem dX7_feed_10 : decode cX7_feed 10 = .ok (.iconst (-1), 1) := by decide +kernel
theorem dX7_feed_11 : decode cX7_feed 11 = .ok (.ireturn, 1) := by decide +kernel
theorem dX7_feed_12 : decode cX7_feed 12 = .ok (.aload_n 0, 1) := by decide +kernel
theorem dX7_feed_13 : decode cX7_feed 13 = .ok (.getfield 34, 3) := by decide +kernel
theorem dX7_feed_16 : decode cX7_feed 16 = .ok (.iload_n 1, 1) := by decide +kernel
theorem dX7_feed_17 : decode cX7_feed 17 = .ok (.invokevirtual 68, 3) := by decide +kernel
theorem dX7_feed_20 : decode cX7_feed 20 = .ok (.ifCond .eq 13, 3) := by decide +kernel
theorem dX7_feed_23 : decode cX7_feed 23 = .ok (.aload_n 0, 1) := by decide +kernel
theorem dX7_feed_24 : decode cX7_feed 24 = .ok (.getfield 34, 3) := by decide +kernel
theorem dX7_feed_27 : decode cX7_feed 27 = .ok (.getfield 74, 3) := by decide +kernel
theorem dX7_feed_30 : decode cX7_feed 30 = .ok (.goto 5, 3) := by decide +kernel
theorem dX7_feed_33 : decode cX7_feed 33 = .ok (.bipush (-3), 2) := by decide +kernel
theorem dX7_feed_35 : decode cX7_feed 35 = .ok (.ireturn, 1) := by decide +kernel
theorem dX7_end_0 : decode cX7_end 0 = .ok (.iload_n 1, 1) := by decide +kernel
theorem dX7_end_1 : decode cX7_end 1 = .ok (.iconst 0, 1) := by decide +kernel
theorem dX7_end_2 : decode cX7_end 2 = .ok (.aload_n 0, 1) := by decide +kernel
theorem dX7_end_3 : decode cX7_end 3 = .ok (.getfield 34, 3) := by decide +kernel
theorem dX7_end_6 : decode cX7_end 6 = .ok (.getfield 74, 3) := by decide +kernel
theorem dX7_end_9 : decode cX7_end 9 = .ok (.invokestatic 64, 3) := by decide +kernel
theorem dX7_end_12 : decode cX7_end 12 = .ok (.ifCond .eq 5, 3) := by decide +kernel
theorem dX7_end_15 : decode cX7_end 15 = .ok (.iconst (-1), 1) := by decide +kernel
theorem dX7_end_16 : decode cX7_end 16 = .ok (.ireturn, 1) := by decide +kernel
theorem dX7_end_17 : decode cX7_end 17 = .ok (.aload_n 0, 1) := by decide +kernel
theorem dX7_end_18 : decode cX7_end 18 = .ok (.getfield 34, 3) := by decide +kernel
theorem dX7_end_21 : decode cX7_end 21 = .ok (.getfield 74, 3) := by decide +kernel
theorem dX7_end_24 : decode cX7_end 24 = .ok (.istore_n 2, 1) := by decide +kernel
theorem dX7_end_25 : decode cX7_end 25 = .ok (.aload_n 0, 1) := by decide +kernel
theorem dX7_end_26 : decode cX7_end 26 = .ok (.getfield 34, 3) := by decide +kernel
theorem dX7_end_29 : decode cX7_end 29 = .ok (.iload_n 1, 1) := by decide +kernel
theorem dX7_end_30 : decode cX7_end 30 = .ok (.putfield 74, 3) := by decide +kernel
theorem dX7_end_33 : decode cX7_end 33 = .ok (.iload_n 2, 1) := by decide +kernel
theorem dX7_end_34 : decode cX7_end 34 = .ok (.ireturn, 1) := by decide +kernel
theorem dX7_text_0 : decode cX7_text 0 = .ok (.aload_n 0, 1) := by decide +kernel
theorem dX7_text_1 : decode cX7_text 1 = .ok (.getfield 26, 3) := by decide +kernel
theorem dX7_text_4 : decode cX7_text 4 = .ok (.aload_n 0, 1) := by decide +kernel
theorem dX7_text_5 : decode cX7_text 5 = .ok (.getfield 19, 3) := by decide +kernel
theorem dX7_text_8 : decode cX7_text 8 = .ok (.getfield 78, 3) := by decide +kernel
theorem dX7_text_11 : decode cX7_text 11 = .ok (.invokevirtual 81, 3) := by decide +kernel
theorem dX7_text_14 : decode cX7_text 14 = .ok (.istore_n 1, 1) := by decide +kernel
theorem dX7_text_15 : decode cX7_text 15 = .ok (.aload_n 0, 1) := by decide +kernel
theorem dX7_text_16 : decode cX7_text 16 = .ok (.getfield 34, 3) := by decide +kernel
theorem dX7_text_19 : decode cX7_text 19 = .ok (.iconst 0, 1) := by decide +kernel
theorem dX7_text_20 : decode cX7_text 20 = .ok (.putfield 74, 3) := by decide +kernel
theorem dX7_text_23 : decode cX7_text 23 = .ok (.aload_n 0, 1) := by decide +kernel
theorem dX7_text_24 : decode cX7_text 24 = .ok (.aload_n 0, 1) := by decide +kernel
theorem dX7_text_25 : decode cX7_text 25 = .ok (.getfield 26, 3) := by decide +kernel
theorem dX7_text_28 : decode cX7_text 28 = .ok (.getfield 85, 3) := by decide +kernel
theorem dX7_text_31 : decode cX7_text 31 = .ok (.putfield 88, 3) := by decide +kernel
theorem dX7_text_34 : decode cX7_text 34 = .ok (.aload_n 0, 1) := by decide +kernel
theorem dX7_text_35 : decode cX7_text 35 = .ok (.getfield 26, 3) := by decide +kernel
theorem dX7_text_38 : decode cX7_text 38 = .ok (.getfield 85, 3) := by decide +kernel
theorem dX7_text_41 : decode cX7_text 41 = .ok (.ifCond .eq 14, 3) := by decide +kernel
theorem dX7_text_44 : decode cX7_text 44 = .ok (.bipush (-10), 2) := by decide +kernel
theorem dX7_text_46 : decode cX7_text 46 = .ok (.aload_n 0, 1) := by decide +kernel
theorem dX7_text_47 : decode cX7_text 47 = .ok (.getfield 26, 3) := by decide +kernel
theorem dX7_text_50 : decode cX7_text 50 = .ok (.getfield 91, 3) := by decide +kernel
theorem dX7_text_53 : decode cX7_text 53 = .ok (.isub, 1) := by decide +kernel
theorem dX7_text_54 : decode cX7_text 54 = .ok (.ireturn, 1) := by decide +kernel
theorem dX7_text_55 : decode cX7_text 55 = .ok (.aload_n 0, 1) := by decide +kernel
theorem dX7_text_56 : decode cX7_text 56 = .ok (.getfield 10, 3) := by decide +kernel
theorem dX7_text_59 : decode cX7_text 59 = .ok (.aload_n 0, 1) := by decide +kernel
theorem dX7_text_60 : decode cX7_text 60 = .ok (.getfield 19, 3) := by decide +kernel
theorem dX7_text_63 : decode cX7_text 63 = .ok (.getfield 78, 3) := by decide +kernel
theorem dX7_text_66 : decode cX7_text 66 = .ok (.invokevirtual 94, 3) := by decide +kernel
theorem dX7_text_69 : decode cX7_text 69 = .ok (.aload_n 0, 1) := by decide +kernel
theorem dX7_text_70 : decode cX7_text 70 = .ok (.getfield 38, 3) := by decide +kernel
theorem dX7_text_73 : decode cX7_text 73 = .ok (.iconst 0, 1) := by decide +kernel
theorem dX7_text_74 : decode cX7_text 74 = .ok (.putfield 98, 3) := by decide +kernel
theorem dX7_text_77 : decode cX7_text 77 = .ok (.iconst 0, 1) := by decide +kernel
theorem dX7_text_78 : decode cX7_text 78 = .ok (.istore_n 2, 1) := by decide +kernel
theorem dX7_text_79 : decode cX7_text 79 = .ok (.iload_n 2, 1) := by decide +kernel
theorem dX7_text_80 : decode cX7_text 80 = .ok (.iconst 2, 1) := by decide +kernel
theorem dX7_text_81 : decode cX7_text 81 = .ok (.if_icmp .ge 16, 3) := by decide +kernel
theorem dX7_text_84 : decode cX7_text 84 = .ok (.aload_n 0, 1) := by decide +kernel
theorem dX7_text_85 : decode cX7_text 85 = .ok (.getfield 53, 3) := by decide +kernel
theorem dX7_text_88 : decode cX7_text 88 = .ok (.iload_n 2, 1) := by decide +kernel
theorem dX7_text_89 : decode cX7_text 89 = .ok (.iconst 0, 1) := by decide +kernel
theorem dX7_text_90 : decode cX7_text 90 = .ok (.bastore, 1) := by decide +kernel
theorem dX7_text_91 : decode cX7_text 91 = .ok (.iinc 2 1, 3) := by decide +kernel
theorem dX7_text_94 : decode cX7_text 94 = .ok (.goto (-15), 3) := by decide +kernel
theorem dX7_text_97 : decode cX7_text 97 = .ok (.iload_n 1, 1) := by decide +kernel
theorem dX7_text_98 : decode cX7_text 98 = .ok (.ireturn, 1) := by decide +kernel
theorem dX7_fault_0 : decode cX7_fault 0 = .ok (.aload_n 0, 1) := by decide +kernel
theorem dX7_fault_1 : decode cX7_fault 1 = .ok (.getfield 88, 3) := by decide +kernel
theorem dX7_fault_4 : decode cX7_fault 4 = .ok (.ireturn, 1) := by decide +kernel
theorem dX7_rule_0 : decode cX7_rule 0 = .ok (.iload_n 1, 1) := by decide +kernel
theorem dX7_rule_1 : decode cX7_rule 1 = .ok (.tableswitch 111 0 7 #[47, 55, 63, 71, 79, 87, 95, 103], 47) := by decide +kernel
theorem dX7_rule_48 : decode cX7_rule 48 = .ok (.aload_n 0, 1) := by decide +kernel
theorem dX7_rule_49 : decode cX7_rule 49 = .ok (.getfield 10, 3) := by decide +kernel
theorem dX7_rule_52 : decode cX7_rule 52 = .ok (.getfield 101, 3) := by decide +kernel
theorem dX7_rule_55 : decode cX7_rule 55 = .ok (.ireturn, 1) := by decide +kernel
theorem dX7_rule_56 : decode cX7_rule 56 = .ok (.aload_n 0, 1) := by decide +kernel
theorem dX7_rule_57 : decode cX7_rule 57 = .ok (.getfield 10, 3) := by decide +kernel
theorem dX7_rule_60 : decode cX7_rule 60 = .ok (.getfield 104, 3) := by decide +kernel
theorem dX7_rule_63 : decode cX7_rule 63 = .ok (.ireturn, 1) := by decide +kernel
theorem dX7_rule_64 : decode cX7_rule 64 = .ok (.aload_n 0, 1) := by decide +kernel
theorem dX7_rule_65 : decode cX7_rule 65 = .ok (.getfield 10, 3) := by decide +kernel
theorem dX7_rule_68 : decode cX7_rule 68 = .ok (.getfield 107, 3) := by decide +kernel
theorem dX7_rule_71 : decode cX7_rule 71 = .ok (.ireturn, 1) := by decide +kernel
theorem dX7_rule_72 : decode cX7_rule 72 = .ok (.aload_n 0, 1) := by decide +kernel
theorem dX7_rule_73 : decode cX7_rule 73 = .ok (.getfield 10, 3) := by decide +kernel
theorem dX7_rule_76 : decode cX7_rule 76 = .ok (.getfield 110, 3) := by decide +kernel
theorem dX7_rule_79 : decode cX7_rule 79 = .ok (.ireturn, 1) := by decide +kernel
theorem dX7_rule_80 : decode cX7_rule 80 = .ok (.aload_n 0, 1) := by decide +kernel
theorem dX7_rule_81 : decode cX7_rule 81 = .ok (.getfield 10, 3) := by decide +kernel
theorem dX7_rule_84 : decode cX7_rule 84 = .ok (.invokevirtual 113, 3) := by decide +kernel
theorem dX7_rule_87 : decode cX7_rule 87 = .ok (.ireturn, 1) := by decide +kernel
theorem dX7_rule_88 : decode cX7_rule 88 = .ok (.aload_n 0, 1) := by decide +kernel
theorem dX7_rule_89 : decode cX7_rule 89 = .ok (.getfield 10, 3) := by decide +kernel
theorem dX7_rule_92 : decode cX7_rule 92 = .ok (.invokevirtual 117, 3) := by decide +kernel
theorem dX7_rule_95 : decode cX7_rule 95 = .ok (.ireturn, 1) := by decide +kernel
theorem dX7_rule_96 : decode cX7_rule 96 = .ok (.aload_n 0, 1) := by decide +kernel
theorem dX7_rule_97 : decode cX7_rule 97 = .ok (.getfield 10, 3) := by decide +kernel
theorem dX7_rule_100 : decode cX7_rule 100 = .ok (.invokevirtual 120, 3) := by decide +kernel
theorem dX7_rule_103 : decode cX7_rule 103 = .ok (.ireturn, 1) := by decide +kernel
theorem dX7_rule_104 : decode cX7_rule 104 = .ok (.aload_n 0, 1) := by decide +kernel
theorem dX7_rule_105 : decode cX7_rule 105 = .ok (.getfield 10, 3) := by decide +kernel
theorem dX7_rule_108 : decode cX7_rule 108 = .ok (.invokevirtual 123, 3) := by decide +kernel
theorem dX7_rule_111 : decode cX7_rule 111 = .ok (.ireturn, 1) := by decide +kernel
theorem dX7_rule_112 : decode cX7_rule 112 = .ok (.iconst (-1), 1) := by decide +kernel
theorem dX7_rule_113 : decode cX7_rule 113 = .ok (.ireturn, 1) := by decide +kernel
theorem dX7_gate_0 : decode cX7_gate 0 = .ok (.iload_n 1, 1) := by decide +kernel
theorem dX7_gate_1 : decode cX7_gate 1 = .ok (.invokestatic 126, 3) := by decide +kernel
theorem dX7_gate_4 : decode cX7_gate 4 = .ok (.ifCond .eq 5, 3) := by decide +kernel
theorem dX7_gate_7 : decode cX7_gate 7 = .ok (.iconst (-1), 1) := by decide +kernel
theorem dX7_gate_8 : decode cX7_gate 8 = .ok (.ireturn, 1) := by decide +kernel
theorem dX7_gate_9 : decode cX7_gate 9 = .ok (.iload_n 2, 1) := by decide +kernel
theorem dX7_gate_10 : decode cX7_gate 10 = .ok (.tableswitch 68 0 3 #[30, 40, 50, 59], 30) := by decide +kernel
theorem dX7_gate_40 : decode cX7_gate 40 = .ok (.aload_n 0, 1) := by decide +kernel
theorem dX7_gate_41 : decode cX7_gate 41 = .ok (.getfield 10, 3) := by decide +kernel
theorem dX7_gate_44 : decode cX7_gate 44 = .ok (.getfield 129, 3) := by decide +kernel
theorem dX7_gate_47 : decode cX7_gate 47 = .ok (.iload_n 1, 1) := by decide +kernel
theorem dX7_gate_48 : decode cX7_gate 48 = .ok (.iaload, 1) := by decide +kernel
theorem dX7_gate_49 : decode cX7_gate 49 = .ok (.ireturn, 1) := by decide +kernel
theorem dX7_gate_50 : decode cX7_gate 50 = .ok (.aload_n 0, 1) := by decide +kernel
theorem dX7_gate_51 : decode cX7_gate 51 = .ok (.getfield 10, 3) := by decide +kernel
theorem dX7_gate_54 : decode cX7_gate 54 = .ok (.getfield 133, 3) := by decide +kernel
theorem dX7_gate_57 : decode cX7_gate 57 = .ok (.iload_n 1, 1) := by decide +kernel
theorem dX7_gate_58 : decode cX7_gate 58 = .ok (.iaload, 1) := by decide +kernel
theorem dX7_gate_59 : decode cX7_gate 59 = .ok (.ireturn, 1) := by decide +kernel
theorem dX7_gate_60 : decode cX7_gate 60 = .ok (.aload_n 0, 1) := by decide +kernel
theorem dX7_gate_61 : decode cX7_gate 61 = .ok (.getfield 10, 3) := by decide +kernel
theorem dX7_gate_64 : decode cX7_gate 64 = .ok (.iload_n 1, 1) := by decide +kernel
theorem dX7_gate_65 : decode cX7_gate 65 = .ok (.invokevirtual 136, 3) := by decide +kernel
theorem dX7_gate_68 : decode cX7_gate 68 = .ok (.ireturn, 1) := by decide +kernel
theorem dX7_gate_69 : decode cX7_gate 69 = .ok (.aload_n 0, 1) := by decide +kernel
theorem dX7_gate_70 : decode cX7_gate 70 = .ok (.getfield 10, 3) := by decide +kernel
theorem dX7_gate_73 : decode cX7_gate 73 = .ok (.iload_n 1, 1) := by decide +kernel
theorem dX7_gate_74 : decode cX7_gate 74 = .ok (.invokevirtual 140, 3) := by decide +kernel
theorem dX7_gate_77 : decode cX7_gate 77 = .ok (.ireturn, 1) := by decide +kernel
theorem dX7_gate_78 : decode cX7_gate 78 = .ok (.iconst (-1), 1) := by decide +kernel
theorem dX7_gate_79 : decode cX7_gate 79 = .ok (.ireturn, 1) := by decide +kernel
theorem dX7_taker_0 : decode cX7_taker 0 = .ok (.aload_n 0, 1) := by decide +kernel
theorem dX7_taker_1 : decode cX7_taker 1 = .ok (.iload_n 1, 1) := by decide +kernel
theorem dX7_taker_2 : decode cX7_taker 2 = .ok (.invokevirtual 143, 3) := by decide +kernel
theorem dX7_taker_5 : decode cX7_taker 5 = .ok (.ifCond .eq 5, 3) := by decide +kernel
theorem dX7_taker_8 : decode cX7_taker 8 = .ok (.iconst (-1), 1) := by decide +kernel
theorem dX7_taker_9 : decode cX7_taker 9 = .ok (.ireturn, 1) := by decide +kernel
theorem dX7_taker_10 : decode cX7_taker 10 = .ok (.iload_n 2, 1) := by decide +kernel
theorem dX7_taker_11 : decode cX7_taker 11 = .ok (.tableswitch 95 0 5 #[37, 47, 57, 67, 77, 86], 37) := by decide +kernel
theorem dX7_taker_48 : decode cX7_taker 48 = .ok (.aload_n 0, 1) := by decide +kernel
theorem dX7_taker_49 : decode cX7_taker 49 = .ok (.getfield 10, 3) := by decide +kernel
theorem dX7_taker_52 : decode cX7_taker 52 = .ok (.getfield 146, 3) := by decide +kernel
theorem dX7_taker_55 : decode cX7_taker 55 = .ok (.iload_n 1, 1) := by decide +kernel
theorem dX7_taker_56 : decode cX7_taker 56 = .ok (.iaload, 1) := by decide +kernel
theorem dX7_taker_57 : decode cX7_taker 57 = .ok (.ireturn, 1) := by decide +kernel
theorem dX7_taker_58 : decode cX7_taker 58 = .ok (.aload_n 0, 1) := by decide +kernel
theorem dX7_taker_59 : decode cX7_taker 59 = .ok (.getfield 10, 3) := by decide +kernel
theorem dX7_taker_62 : decode cX7_taker 62 = .ok (.getfield 149, 3) := by decide +kernel
theorem dX7_taker_65 : decode cX7_taker 65 = .ok (.iload_n 1, 1) := by decide +kernel
theorem dX7_taker_66 : decode cX7_taker 66 = .ok (.iaload, 1) := by decide +kernel
theorem dX7_taker_67 : decode cX7_taker 67 = .ok (.ireturn, 1) := by decide +kernel
theorem dX7_taker_68 : decode cX7_taker 68 = .ok (.aload_n 0, 1) := by decide +kernel
theorem dX7_taker_69 : decode cX7_taker 69 = .ok (.getfield 10, 3) := by decide +kernel
theorem dX7_taker_72 : decode cX7_taker 72 = .ok (.getfield 152, 3) := by decide +kernel
theorem dX7_taker_75 : decode cX7_taker 75 = .ok (.iload_n 1, 1) := by decide +kernel
theorem dX7_taker_76 : decode cX7_taker 76 = .ok (.iaload, 1) := by decide +kernel
theorem dX7_taker_77 : decode cX7_taker 77 = .ok (.ireturn, 1) := by decide +kernel
theorem dX7_taker_78 : decode cX7_taker 78 = .ok (.aload_n 0, 1) := by decide +kernel
theorem dX7_taker_79 : decode cX7_taker 79 = .ok (.getfield 10, 3) := by decide +kernel
theorem dX7_taker_82 : decode cX7_taker 82 = .ok (.getfield 155, 3) := by decide +kernel
theorem dX7_taker_85 : decode cX7_taker 85 = .ok (.iload_n 1, 1) := by decide +kernel
theorem dX7_taker_86 : decode cX7_taker 86 = .ok (.iaload, 1) := by decide +kernel
theorem dX7_taker_87 : decode cX7_taker 87 = .ok (.ireturn, 1) := by decide +kernel
theorem dX7_taker_88 : decode cX7_taker 88 = .ok (.aload_n 0, 1) := by decide +kernel
theorem dX7_taker_89 : decode cX7_taker 89 = .ok (.getfield 10, 3) := by decide +kernel
theorem dX7_taker_92 : decode cX7_taker 92 = .ok (.iload_n 1, 1) := by decide +kernel
theorem dX7_taker_93 : decode cX7_taker 93 = .ok (.invokevirtual 158, 3) := by decide +kernel
theorem dX7_taker_96 : decode cX7_taker 96 = .ok (.ireturn, 1) := by decide +kernel
theorem dX7_taker_97 : decode cX7_taker 97 = .ok (.aload_n 0, 1) := by decide +kernel
theorem dX7_taker_98 : decode cX7_taker 98 = .ok (.getfield 10, 3) := by decide +kernel
theorem dX7_taker_101 : decode cX7_taker 101 = .ok (.iload_n 1, 1) := by decide +kernel
theorem dX7_taker_102 : decode cX7_taker 102 = .ok (.invokevirtual 161, 3) := by decide +kernel
theorem dX7_taker_105 : decode cX7_taker 105 = .ok (.ireturn, 1) := by decide +kernel
theorem dX7_taker_106 : decode cX7_taker 106 = .ok (.iconst (-1), 1) := by decide +kernel
theorem dX7_taker_107 : decode cX7_taker 107 = .ok (.ireturn, 1) := by decide +kernel
theorem dX7_keeper_0 : decode cX7_keeper 0 = .ok (.aload_n 0, 1) := by decide +kernel
theorem dX7_keeper_1 : decode cX7_keeper 1 = .ok (.iload_n 1, 1) := by decide +kernel
theorem dX7_keeper_2 : decode cX7_keeper 2 = .ok (.invokevirtual 164, 3) := by decide +kernel
theorem dX7_keeper_5 : decode cX7_keeper 5 = .ok (.ifCond .eq 5, 3) := by decide +kernel
theorem dX7_keeper_8 : decode cX7_keeper 8 = .ok (.iconst (-1), 1) := by decide +kernel
theorem dX7_keeper_9 : decode cX7_keeper 9 = .ok (.ireturn, 1) := by decide +kernel
theorem dX7_keeper_10 : decode cX7_keeper 10 = .ok (.iload_n 2, 1) := by decide +kernel
theorem dX7_keeper_11 : decode cX7_keeper 11 = .ok (.tableswitch 68 0 3 #[29, 39, 49, 59], 29) := by decide +kernel
theorem dX7_keeper_40 : decode cX7_keeper 40 = .ok (.aload_n 0, 1) := by decide +kernel
theorem dX7_keeper_41 : decode cX7_keeper 41 = .ok (.getfield 10, 3) := by decide +kernel
theorem dX7_keeper_44 : decode cX7_keeper 44 = .ok (.getfield 167, 3) := by decide +kernel
theorem dX7_keeper_47 : decode cX7_keeper 47 = .ok (.iload_n 1, 1) := by decide +kernel
theorem dX7_keeper_48 : decode cX7_keeper 48 = .ok (.iaload, 1) := by decide +kernel
theorem dX7_keeper_49 : decode cX7_keeper 49 = .ok (.ireturn, 1) := by decide +kernel
theorem dX7_keeper_50 : decode cX7_keeper 50 = .ok (.aload_n 0, 1) := by decide +kernel
theorem dX7_keeper_51 : decode cX7_keeper 51 = .ok (.getfield 10, 3) := by decide +kernel
theorem dX7_keeper_54 : decode cX7_keeper 54 = .ok (.getfield 170, 3) := by decide +kernel
theorem dX7_keeper_57 : decode cX7_keeper 57 = .ok (.iload_n 1, 1) := by decide +kernel
theorem dX7_keeper_58 : decode cX7_keeper 58 = .ok (.iaload, 1) := by decide +kernel
theorem dX7_keeper_59 : decode cX7_keeper 59 = .ok (.ireturn, 1) := by decide +kernel
theorem dX7_keeper_60 : decode cX7_keeper 60 = .ok (.aload_n 0, 1) := by decide +kernel
theorem dX7_keeper_61 : decode cX7_keeper 61 = .ok (.getfield 10, 3) := by decide +kernel
theorem dX7_keeper_64 : decode cX7_keeper 64 = .ok (.getfield 173, 3) := by decide +kernel
theorem dX7_keeper_67 : decode cX7_keeper 67 = .ok (.iload_n 1, 1) := by decide +kernel
theorem dX7_keeper_68 : decode cX7_keeper 68 = .ok (.iaload, 1) := by decide +kernel
theorem dX7_keeper_69 : decode cX7_keeper 69 = .ok (.ireturn, 1) := by decide +kernel
theorem dX7_keeper_70 : decode cX7_keeper 70 = .ok (.aload_n 0, 1) := by decide +kernel
theorem dX7_keeper_71 : decode cX7_keeper 71 = .ok (.getfield 10, 3) := by decide +kernel
theorem dX7_keeper_74 : decode cX7_keeper 74 = .ok (.iload_n 1, 1) := by decide +kernel
theorem dX7_keeper_75 : decode cX7_keeper 75 = .ok (.invokevirtual 176, 3) := by decide +kernel
theorem dX7_keeper_78 : decode cX7_keeper 78 = .ok (.ireturn, 1) := by decide +kernel
theorem dX7_keeper_79 : decode cX7_keeper 79 = .ok (.iconst (-1), 1) := by decide +kernel
theorem dX7_keeper_80 : decode cX7_keeper 80 = .ok (.ireturn, 1) := by decide +kernel
theorem dX7_alter_0 : decode cX7_alter 0 = .ok (.aload_n 0, 1) := by decide +kernel
theorem dX7_alter_1 : decode cX7_alter 1 = .ok (.iload_n 1, 1) := by decide +kernel
theorem dX7_alter_2 : decode cX7_alter 2 = .ok (.invokevirtual 143, 3) := by decide +kernel
theorem dX7_alter_5 : decode cX7_alter 5 = .ok (.ifCond .eq 5, 3) := by decide +kernel
theorem dX7_alter_8 : decode cX7_alter 8 = .ok (.iconst (-1), 1) := by decide +kernel
theorem dX7_alter_9 : decode cX7_alter 9 = .ok (.ireturn, 1) := by decide +kernel
theorem dX7_alter_10 : decode cX7_alter 10 = .ok (.iload_n 2, 1) := by decide +kernel
theorem dX7_alter_11 : decode cX7_alter 11 = .ok (.tableswitch 72 0 2 #[25, 40, 55], 25) := by decide +kernel
theorem dX7_alter_36 : decode cX7_alter 36 = .ok (.aload_n 0, 1) := by decide +kernel
theorem dX7_alter_37 : decode cX7_alter 37 = .ok (.getfield 10, 3) := by decide +kernel
theorem dX7_alter_40 : decode cX7_alter 40 = .ok (.getfield 146, 3) := by decide +kernel
theorem dX7_alter_43 : decode cX7_alter 43 = .ok (.iload_n 1, 1) := by decide +kernel
theorem dX7_alter_44 : decode cX7_alter 44 = .ok (.iload_n 3, 1) := by decide +kernel
theorem dX7_alter_45 : decode cX7_alter 45 = .ok (.iconst 0, 1) := by decide +kernel
theorem dX7_alter_46 : decode cX7_alter 46 = .ok (.iconst 3, 1) := by decide +kernel
theorem dX7_alter_47 : decode cX7_alter 47 = .ok (.invokestatic 179, 3) := by decide +kernel
theorem dX7_alter_50 : decode cX7_alter 50 = .ok (.ireturn, 1) := by decide +kernel
theorem dX7_alter_51 : decode cX7_alter 51 = .ok (.aload_n 0, 1) := by decide +kernel
theorem dX7_alter_52 : decode cX7_alter 52 = .ok (.getfield 10, 3) := by decide +kernel
theorem dX7_alter_55 : decode cX7_alter 55 = .ok (.getfield 149, 3) := by decide +kernel
theorem dX7_alter_58 : decode cX7_alter 58 = .ok (.iload_n 1, 1) := by decide +kernel
theorem dX7_alter_59 : decode cX7_alter 59 = .ok (.iload_n 3, 1) := by decide +kernel
theorem dX7_alter_60 : decode cX7_alter 60 = .ok (.iconst 0, 1) := by decide +kernel
theorem dX7_alter_61 : decode cX7_alter 61 = .ok (.iconst 5, 1) := by decide +kernel
theorem dX7_alter_62 : decode cX7_alter 62 = .ok (.invokestatic 179, 3) := by decide +kernel
theorem dX7_alter_65 : decode cX7_alter 65 = .ok (.ireturn, 1) := by decide +kernel
theorem dX7_alter_66 : decode cX7_alter 66 = .ok (.aload_n 0, 1) := by decide +kernel
theorem dX7_alter_67 : decode cX7_alter 67 = .ok (.getfield 10, 3) := by decide +kernel
theorem dX7_alter_70 : decode cX7_alter 70 = .ok (.getfield 152, 3) := by decide +kernel
theorem dX7_alter_73 : decode cX7_alter 73 = .ok (.iload_n 1, 1) := by decide +kernel
theorem dX7_alter_74 : decode cX7_alter 74 = .ok (.iload_n 3, 1) := by decide +kernel
theorem dX7_alter_75 : decode cX7_alter 75 = .ok (.iconst 0, 1) := by decide +kernel
theorem dX7_alter_76 : decode cX7_alter 76 = .ok (.sipush 999, 3) := by decide +kernel
theorem dX7_alter_79 : decode cX7_alter 79 = .ok (.invokestatic 179, 3) := by decide +kernel
theorem dX7_alter_82 : decode cX7_alter 82 = .ok (.ireturn, 1) := by decide +kernel
theorem dX7_alter_83 : decode cX7_alter 83 = .ok (.iconst (-1), 1) := by decide +kernel
theorem dX7_alter_84 : decode cX7_alter 84 = .ok (.ireturn, 1) := by decide +kernel
theorem dX7_order_0 : decode cX7_order 0 = .ok (.aload_n 0, 1) := by decide +kernel
theorem dX7_order_1 : decode cX7_order 1 = .ok (.iload_n 1, 1) := by decide +kernel
theorem dX7_order_2 : decode cX7_order 2 = .ok (.invokevirtual 164, 3) := by decide +kernel
theorem dX7_order_5 : decode cX7_order 5 = .ok (.ifCond .eq 5, 3) := by decide +kernel
theorem dX7_order_8 : decode cX7_order 8 = .ok (.iconst (-1), 1) := by decide +kernel
theorem dX7_order_9 : decode cX7_order 9 = .ok (.ireturn, 1) := by decide +kernel
theorem dX7_order_10 : decode cX7_order 10 = .ok (.iload_n 2, 1) := by decide +kernel
theorem dX7_order_11 : decode cX7_order 11 = .ok (.tableswitch 71 0 2 #[25, 40, 55], 25) := by decide +kernel
theorem dX7_order_36 : decode cX7_order 36 = .ok (.aload_n 0, 1) := by decide +kernel
theorem dX7_order_37 : decode cX7_order 37 = .ok (.getfield 10, 3) := by decide +kernel
theorem dX7_order_40 : decode cX7_order 40 = .ok (.getfield 167, 3) := by decide +kernel
theorem dX7_order_43 : decode cX7_order 43 = .ok (.iload_n 1, 1) := by decide +kernel
theorem dX7_order_44 : decode cX7_order 44 = .ok (.iload_n 3, 1) := by decide +kernel
theorem dX7_order_45 : decode cX7_order 45 = .ok (.iconst 0, 1) := by decide +kernel
theorem dX7_order_46 : decode cX7_order 46 = .ok (.iconst 5, 1) := by decide +kernel
theorem dX7_order_47 : decode cX7_order 47 = .ok (.invokestatic 179, 3) := by decide +kernel
theorem dX7_order_50 : decode cX7_order 50 = .ok (.ireturn, 1) := by decide +kernel
theorem dX7_order_51 : decode cX7_order 51 = .ok (.aload_n 0, 1) := by decide +kernel
theorem dX7_order_52 : decode cX7_order 52 = .ok (.getfield 10, 3) := by decide +kernel
theorem dX7_order_55 : decode cX7_order 55 = .ok (.getfield 170, 3) := by decide +kernel
theorem dX7_order_58 : decode cX7_order 58 = .ok (.iload_n 1, 1) := by decide +kernel
theorem dX7_order_59 : decode cX7_order 59 = .ok (.iload_n 3, 1) := by decide +kernel
theorem dX7_order_60 : decode cX7_order 60 = .ok (.iconst 0, 1) := by decide +kernel
theorem dX7_order_61 : decode cX7_order 61 = .ok (.iconst 5, 1) := by decide +kernel
theorem dX7_order_62 : decode cX7_order 62 = .ok (.invokestatic 179, 3) := by decide +kernel
theorem dX7_order_65 : decode cX7_order 65 = .ok (.ireturn, 1) := by decide +kernel
theorem dX7_order_66 : decode cX7_order 66 = .ok (.aload_n 0, 1) := by decide +kernel
theorem dX7_order_67 : decode cX7_order 67 = .ok (.getfield 10, 3) := by decide +kernel
theorem dX7_order_70 : decode cX7_order 70 = .ok (.getfield 173, 3) := by decide +kernel
theorem dX7_order_73 : decode cX7_order 73 = .ok (.iload_n 1, 1) := by decide +kernel
theorem dX7_order_74 : decode cX7_order 74 = .ok (.iload_n 3, 1) := by decide +kernel
theorem dX7_order_75 : decode cX7_order 75 = .ok (.iconst 1, 1) := by decide +kernel
theorem dX7_order_76 : decode cX7_order 76 = .ok (.bipush 9, 2) := by decide +kernel
theorem dX7_order_78 : decode cX7_order 78 = .ok (.invokestatic 179, 3) := by decide +kernel
theorem dX7_order_81 : decode cX7_order 81 = .ok (.ireturn, 1) := by decide +kernel
theorem dX7_order_82 : decode cX7_order 82 = .ok (.iconst (-1), 1) := by decide +kernel
theorem dX7_order_83 : decode cX7_order 83 = .ok (.ireturn, 1) := by decide +kernel
theorem dX7_tend_0 : decode cX7_tend 0 = .ok (.iload_n 1, 1) := by decide +kernel
theorem dX7_tend_1 : decode cX7_tend 1 = .ok (.invokestatic 126, 3) := by decide +kernel
theorem dX7_tend_4 : decode cX7_tend 4 = .ok (.ifCond .eq 5, 3) := by decide +kernel
theorem dX7_tend_7 : decode cX7_tend 7 = .ok (.iconst (-1), 1) := by decide +kernel
theorem dX7_tend_8 : decode cX7_tend 8 = .ok (.ireturn, 1) := by decide +kernel
theorem dX7_tend_9 : decode cX7_tend 9 = .ok (.iload_n 2, 1) := by decide +kernel
theorem dX7_tend_10 : decode cX7_tend 10 = .ok (.lookupswitch 58 #[(0, 26), (1, 42)], 26) := by decide +kernel
theorem dX7_tend_36 : decode cX7_tend 36 = .ok (.aload_n 0, 1) := by decide +kernel
theorem dX7_tend_37 : decode cX7_tend 37 = .ok (.getfield 10, 3) := by decide +kernel
theorem dX7_tend_40 : decode cX7_tend 40 = .ok (.getfield 129, 3) := by decide +kernel
theorem dX7_tend_43 : decode cX7_tend 43 = .ok (.iload_n 1, 1) := by decide +kernel
theorem dX7_tend_44 : decode cX7_tend 44 = .ok (.iload_n 3, 1) := by decide +kernel
theorem dX7_tend_45 : decode cX7_tend 45 = .ok (.iconst 0, 1) := by decide +kernel
theorem dX7_tend_46 : decode cX7_tend 46 = .ok (.bipush 60, 2) := by decide +kernel
theorem dX7_tend_48 : decode cX7_tend 48 = .ok (.invokestatic 179, 3) := by decide +kernel
theorem dX7_tend_51 : decode cX7_tend 51 = .ok (.ireturn, 1) := by decide +kernel
theorem dX7_tend_52 : decode cX7_tend 52 = .ok (.aload_n 0, 1) := by decide +kernel
theorem dX7_tend_53 : decode cX7_tend 53 = .ok (.getfield 10, 3) := by decide +kernel
theorem dX7_tend_56 : decode cX7_tend 56 = .ok (.getfield 133, 3) := by decide +kernel
theorem dX7_tend_59 : decode cX7_tend 59 = .ok (.iload_n 1, 1) := by decide +kernel
theorem dX7_tend_60 : decode cX7_tend 60 = .ok (.iload_n 3, 1) := by decide +kernel
theorem dX7_tend_61 : decode cX7_tend 61 = .ok (.iconst 0, 1) := by decide +kernel
theorem dX7_tend_62 : decode cX7_tend 62 = .ok (.bipush 9, 2) := by decide +kernel
theorem dX7_tend_64 : decode cX7_tend 64 = .ok (.invokestatic 179, 3) := by decide +kernel
theorem dX7_tend_67 : decode cX7_tend 67 = .ok (.ireturn, 1) := by decide +kernel
theorem dX7_tend_68 : decode cX7_tend 68 = .ok (.iconst (-1), 1) := by decide +kernel
theorem dX7_tend_69 : decode cX7_tend 69 = .ok (.ireturn, 1) := by decide +kernel
theorem dX7_free_0 : decode cX7_free 0 = .ok (.aload_n 0, 1) := by decide +kernel
theorem dX7_free_1 : decode cX7_free 1 = .ok (.iload_n 1, 1) := by decide +kernel
theorem dX7_free_2 : decode cX7_free 2 = .ok (.invokevirtual 143, 3) := by decide +kernel
theorem dX7_free_5 : decode cX7_free 5 = .ok (.ifCond .eq 5, 3) := by decide +kernel
theorem dX7_free_8 : decode cX7_free 8 = .ok (.iconst (-1), 1) := by decide +kernel
theorem dX7_free_9 : decode cX7_free 9 = .ok (.ireturn, 1) := by decide +kernel
theorem dX7_free_10 : decode cX7_free 10 = .ok (.aload_n 0, 1) := by decide +kernel
theorem dX7_free_11 : decode cX7_free 11 = .ok (.getfield 10, 3) := by decide +kernel
theorem dX7_free_14 : decode cX7_free 14 = .ok (.getfield 155, 3) := by decide +kernel
theorem dX7_free_17 : decode cX7_free 17 = .ok (.iload_n 1, 1) := by decide +kernel
theorem dX7_free_18 : decode cX7_free 18 = .ok (.iaload, 1) := by decide +kernel
theorem dX7_free_19 : decode cX7_free 19 = .ok (.ifCond .ne 6, 3) := by decide +kernel
theorem dX7_free_22 : decode cX7_free 22 = .ok (.bipush (-2), 2) := by decide +kernel
theorem dX7_free_24 : decode cX7_free 24 = .ok (.ireturn, 1) := by decide +kernel
theorem dX7_free_25 : decode cX7_free 25 = .ok (.aload_n 0, 1) := by decide +kernel
theorem dX7_free_26 : decode cX7_free 26 = .ok (.getfield 10, 3) := by decide +kernel
theorem dX7_free_29 : decode cX7_free 29 = .ok (.getfield 155, 3) := by decide +kernel
theorem dX7_free_32 : decode cX7_free 32 = .ok (.iload_n 1, 1) := by decide +kernel
theorem dX7_free_33 : decode cX7_free 33 = .ok (.iconst 0, 1) := by decide +kernel
theorem dX7_free_34 : decode cX7_free 34 = .ok (.iconst 0, 1) := by decide +kernel
theorem dX7_free_35 : decode cX7_free 35 = .ok (.iconst 0, 1) := by decide +kernel
theorem dX7_free_36 : decode cX7_free 36 = .ok (.invokestatic 179, 3) := by decide +kernel
theorem dX7_free_39 : decode cX7_free 39 = .ok (.ireturn, 1) := by decide +kernel
theorem dX7_hire_0 : decode cX7_hire 0 = .ok (.iload_n 1, 1) := by decide +kernel
theorem dX7_hire_1 : decode cX7_hire 1 = .ok (.invokestatic 126, 3) := by decide +kernel
theorem dX7_hire_4 : decode cX7_hire 4 = .ok (.ifCond .ne 22, 3) := by decide +kernel
theorem dX7_hire_7 : decode cX7_hire 7 = .ok (.iload_n 2, 1) := by decide +kernel
theorem dX7_hire_8 : decode cX7_hire 8 = .ok (.iconst 0, 1) := by decide +kernel
theorem dX7_hire_9 : decode cX7_hire 9 = .ok (.iconst 5, 1) := by decide +kernel
theorem dX7_hire_10 : decode cX7_hire 10 = .ok (.invokestatic 64, 3) := by decide +kernel
theorem dX7_hire_13 : decode cX7_hire 13 = .ok (.ifCond .ne 13, 3) := by decide +kernel
theorem dX7_hire_16 : decode cX7_hire 16 = .ok (.iload_n 3, 1) := by decide +kernel
theorem dX7_hire_17 : decode cX7_hire 17 = .ok (.iconst 1, 1) := by decide +kernel
theorem dX7_hire_18 : decode cX7_hire 18 = .ok (.bipush 9, 2) := by decide +kernel
theorem dX7_hire_20 : decode cX7_hire 20 = .ok (.invokestatic 64, 3) := by decide +kernel
theorem dX7_hire_23 : decode cX7_hire 23 = .ok (.ifCond .eq 5, 3) := by decide +kernel
theorem dX7_hire_26 : decode cX7_hire 26 = .ok (.iconst (-1), 1) := by decide +kernel
theorem dX7_hire_27 : decode cX7_hire 27 = .ok (.ireturn, 1) := by decide +kernel
theorem dX7_hire_28 : decode cX7_hire 28 = .ok (.aload_n 0, 1) := by decide +kernel
theorem dX7_hire_29 : decode cX7_hire 29 = .ok (.getfield 10, 3) := by decide +kernel
theorem dX7_hire_32 : decode cX7_hire 32 = .ok (.iload_n 1, 1) := by decide +kernel
theorem dX7_hire_33 : decode cX7_hire 33 = .ok (.iload_n 2, 1) := by decide +kernel
theorem dX7_hire_34 : decode cX7_hire 34 = .ok (.iload_n 3, 1) := by decide +kernel
theorem dX7_hire_35 : decode cX7_hire 35 = .ok (.invokevirtual 183, 3) := by decide +kernel
theorem dX7_hire_38 : decode cX7_hire 38 = .ok (.ifCond .eq 13, 3) := by decide +kernel
theorem dX7_hire_41 : decode cX7_hire 41 = .ok (.aload_n 0, 1) := by decide +kernel
theorem dX7_hire_42 : decode cX7_hire 42 = .ok (.getfield 10, 3) := by decide +kernel
theorem dX7_hire_45 : decode cX7_hire 45 = .ok (.getfield 104, 3) := by decide +kernel
theorem dX7_hire_48 : decode cX7_hire 48 = .ok (.goto 5, 3) := by decide +kernel
theorem dX7_hire_51 : decode cX7_hire 51 = .ok (.bipush (-3), 2) := by decide +kernel
theorem dX7_hire_53 : decode cX7_hire 53 = .ok (.ireturn, 1) := by decide +kernel
theorem dX7_dismiss_0 : decode cX7_dismiss 0 = .ok (.iload_n 1, 1) := by decide +kernel
theorem dX7_dismiss_1 : decode cX7_dismiss 1 = .ok (.iconst 0, 1) := by decide +kernel
theorem dX7_dismiss_2 : decode cX7_dismiss 2 = .ok (.aload_n 0, 1) := by decide +kernel
theorem dX7_dismiss_3 : decode cX7_dismiss 3 = .ok (.getfield 10, 3) := by decide +kernel
theorem dX7_dismiss_6 : decode cX7_dismiss 6 = .ok (.getfield 104, 3) := by decide +kernel
theorem dX7_dismiss_9 : decode cX7_dismiss 9 = .ok (.invokestatic 64, 3) := by decide +kernel
theorem dX7_dismiss_12 : decode cX7_dismiss 12 = .ok (.ifCond .eq 5, 3) := by decide +kernel
theorem dX7_dismiss_15 : decode cX7_dismiss 15 = .ok (.iconst (-1), 1) := by decide +kernel
theorem dX7_dismiss_16 : decode cX7_dismiss 16 = .ok (.ireturn, 1) := by decide +kernel
theorem dX7_dismiss_17 : decode cX7_dismiss 17 = .ok (.aload_n 0, 1) := by decide +kernel
theorem dX7_dismiss_18 : decode cX7_dismiss 18 = .ok (.getfield 10, 3) := by decide +kernel
theorem dX7_dismiss_21 : decode cX7_dismiss 21 = .ok (.getfield 104, 3) := by decide +kernel
theorem dX7_dismiss_24 : decode cX7_dismiss 24 = .ok (.istore_n 2, 1) := by decide +kernel
theorem dX7_dismiss_25 : decode cX7_dismiss 25 = .ok (.aload_n 0, 1) := by decide +kernel
theorem dX7_dismiss_26 : decode cX7_dismiss 26 = .ok (.getfield 10, 3) := by decide +kernel
theorem dX7_dismiss_29 : decode cX7_dismiss 29 = .ok (.iload_n 1, 1) := by decide +kernel
theorem dX7_dismiss_30 : decode cX7_dismiss 30 = .ok (.putfield 104, 3) := by decide +kernel
theorem dX7_dismiss_33 : decode cX7_dismiss 33 = .ok (.iload_n 2, 1) := by decide +kernel
theorem dX7_dismiss_34 : decode cX7_dismiss 34 = .ok (.ireturn, 1) := by decide +kernel
theorem dX7_nights_0 : decode cX7_nights 0 = .ok (.iload_n 1, 1) := by decide +kernel
theorem dX7_nights_1 : decode cX7_nights 1 = .ok (.iconst 0, 1) := by decide +kernel
theorem dX7_nights_2 : decode cX7_nights 2 = .ok (.bipush 30, 2) := by decide +kernel
theorem dX7_nights_4 : decode cX7_nights 4 = .ok (.invokestatic 64, 3) := by decide +kernel
theorem dX7_nights_7 : decode cX7_nights 7 = .ok (.ifCond .eq 5, 3) := by decide +kernel
theorem dX7_nights_10 : decode cX7_nights 10 = .ok (.iconst (-1), 1) := by decide +kernel
theorem dX7_nights_11 : decode cX7_nights 11 = .ok (.ireturn, 1) := by decide +kernel
theorem dX7_nights_12 : decode cX7_nights 12 = .ok (.aload_n 0, 1) := by decide +kernel
theorem dX7_nights_13 : decode cX7_nights 13 = .ok (.getfield 10, 3) := by decide +kernel
theorem dX7_nights_16 : decode cX7_nights 16 = .ok (.getfield 107, 3) := by decide +kernel
theorem dX7_nights_19 : decode cX7_nights 19 = .ok (.iload_n 1, 1) := by decide +kernel
theorem dX7_nights_20 : decode cX7_nights 20 = .ok (.iadd, 1) := by decide +kernel
theorem dX7_nights_21 : decode cX7_nights 21 = .ok (.sipush 999, 3) := by decide +kernel
theorem dX7_nights_24 : decode cX7_nights 24 = .ok (.if_icmp .le 6, 3) := by decide +kernel
theorem dX7_nights_27 : decode cX7_nights 27 = .ok (.bipush (-3), 2) := by decide +kernel
theorem dX7_nights_29 : decode cX7_nights 29 = .ok (.ireturn, 1) := by decide +kernel
theorem dX7_nights_30 : decode cX7_nights 30 = .ok (.iconst 0, 1) := by decide +kernel
theorem dX7_nights_31 : decode cX7_nights 31 = .ok (.istore_n 2, 1) := by decide +kernel
theorem dX7_nights_32 : decode cX7_nights 32 = .ok (.iconst 0, 1) := by decide +kernel
theorem dX7_nights_33 : decode cX7_nights 33 = .ok (.istore_n 3, 1) := by decide +kernel
theorem dX7_nights_34 : decode cX7_nights 34 = .ok (.iload_n 3, 1) := by decide +kernel
theorem dX7_nights_35 : decode cX7_nights 35 = .ok (.iload_n 1, 1) := by decide +kernel
theorem dX7_nights_36 : decode cX7_nights 36 = .ok (.if_icmp .ge 20, 3) := by decide +kernel
theorem dX7_nights_39 : decode cX7_nights 39 = .ok (.iload_n 2, 1) := by decide +kernel
theorem dX7_nights_40 : decode cX7_nights 40 = .ok (.aload_n 0, 1) := by decide +kernel
theorem dX7_nights_41 : decode cX7_nights 41 = .ok (.getfield 10, 3) := by decide +kernel
theorem dX7_nights_44 : decode cX7_nights 44 = .ok (.iconst 0, 1) := by decide +kernel
theorem dX7_nights_45 : decode cX7_nights 45 = .ok (.invokevirtual 186, 3) := by decide +kernel
theorem dX7_nights_48 : decode cX7_nights 48 = .ok (.iadd, 1) := by decide +kernel
theorem dX7_nights_49 : decode cX7_nights 49 = .ok (.istore_n 2, 1) := by decide +kernel
theorem dX7_nights_50 : decode cX7_nights 50 = .ok (.iinc 3 1, 3) := by decide +kernel
theorem dX7_nights_53 : decode cX7_nights 53 = .ok (.goto (-19), 3) := by decide +kernel
theorem dX7_nights_56 : decode cX7_nights 56 = .ok (.iload_n 2, 1) := by decide +kernel
theorem dX7_nights_57 : decode cX7_nights 57 = .ok (.ireturn, 1) := by decide +kernel
theorem dX7_runs_0 : decode cX7_runs 0 = .ok (.iload_n 1, 1) := by decide +kernel
theorem dX7_runs_1 : decode cX7_runs 1 = .ok (.iconst 0, 1) := by decide +kernel
theorem dX7_runs_2 : decode cX7_runs 2 = .ok (.bipush 60, 2) := by decide +kernel
theorem dX7_runs_4 : decode cX7_runs 4 = .ok (.invokestatic 64, 3) := by decide +kernel
theorem dX7_runs_7 : decode cX7_runs 7 = .ok (.ifCond .ne 12, 3) := by decide +kernel
theorem dX7_runs_10 : decode cX7_runs 10 = .ok (.iload_n 2, 1) := by decide +kernel
theorem dX7_runs_11 : decode cX7_runs 11 = .ok (.iconst 0, 1) := by decide +kernel
theorem dX7_runs_12 : decode cX7_runs 12 = .ok (.iconst 4, 1) := by decide +kernel
theorem dX7_runs_13 : decode cX7_runs 13 = .ok (.invokestatic 64, 3) := by decide +kernel
theorem dX7_runs_16 : decode cX7_runs 16 = .ok (.ifCond .eq 5, 3) := by decide +kernel
theorem dX7_runs_19 : decode cX7_runs 19 = .ok (.iconst (-1), 1) := by decide +kernel
theorem dX7_runs_20 : decode cX7_runs 20 = .ok (.ireturn, 1) := by decide +kernel
theorem dX7_runs_21 : decode cX7_runs 21 = .ok (.aload_n 0, 1) := by decide +kernel
theorem dX7_runs_22 : decode cX7_runs 22 = .ok (.getfield 19, 3) := by decide +kernel
theorem dX7_runs_25 : decode cX7_runs 25 = .ok (.aload_n 0, 1) := by decide +kernel
theorem dX7_runs_26 : decode cX7_runs 26 = .ok (.getfield 10, 3) := by decide +kernel
theorem dX7_runs_29 : decode cX7_runs 29 = .ok (.invokevirtual 190, 3) := by decide +kernel
theorem dX7_runs_32 : decode cX7_runs 32 = .ok (.aload_n 0, 1) := by decide +kernel
theorem dX7_runs_33 : decode cX7_runs 33 = .ok (.getfield 19, 3) := by decide +kernel
theorem dX7_runs_36 : decode cX7_runs 36 = .ok (.iload_n 1, 1) := by decide +kernel
theorem dX7_runs_37 : decode cX7_runs 37 = .ok (.invokevirtual 193, 3) := by decide +kernel
theorem dX7_runs_40 : decode cX7_runs 40 = .ok (.iload_n 2, 1) := by decide +kernel
theorem dX7_runs_41 : decode cX7_runs 41 = .ok (.tableswitch 66 0 3 #[31, 39, 47, 55], 31) := by decide +kernel
theorem dX7_runs_72 : decode cX7_runs 72 = .ok (.aload_n 0, 1) := by decide +kernel
theorem dX7_runs_73 : decode cX7_runs 73 = .ok (.getfield 19, 3) := by decide +kernel
theorem dX7_runs_76 : decode cX7_runs 76 = .ok (.getfield 197, 3) := by decide +kernel
theorem dX7_runs_79 : decode cX7_runs 79 = .ok (.ireturn, 1) := by decide +kernel
theorem dX7_runs_80 : decode cX7_runs 80 = .ok (.aload_n 0, 1) := by decide +kernel
theorem dX7_runs_81 : decode cX7_runs 81 = .ok (.getfield 19, 3) := by decide +kernel
theorem dX7_runs_84 : decode cX7_runs 84 = .ok (.getfield 200, 3) := by decide +kernel
theorem dX7_runs_87 : decode cX7_runs 87 = .ok (.ireturn, 1) := by decide +kernel
theorem dX7_runs_88 : decode cX7_runs 88 = .ok (.aload_n 0, 1) := by decide +kernel
theorem dX7_runs_89 : decode cX7_runs 89 = .ok (.getfield 19, 3) := by decide +kernel
theorem dX7_runs_92 : decode cX7_runs 92 = .ok (.getfield 203, 3) := by decide +kernel
theorem dX7_runs_95 : decode cX7_runs 95 = .ok (.ireturn, 1) := by decide +kernel
theorem dX7_runs_96 : decode cX7_runs 96 = .ok (.aload_n 0, 1) := by decide +kernel
theorem dX7_runs_97 : decode cX7_runs 97 = .ok (.getfield 19, 3) := by decide +kernel
theorem dX7_runs_100 : decode cX7_runs 100 = .ok (.getfield 78, 3) := by decide +kernel
theorem dX7_runs_103 : decode cX7_runs 103 = .ok (.invokevirtual 113, 3) := by decide +kernel
theorem dX7_runs_106 : decode cX7_runs 106 = .ok (.ireturn, 1) := by decide +kernel
theorem dX7_runs_107 : decode cX7_runs 107 = .ok (.aload_n 0, 1) := by decide +kernel
theorem dX7_runs_108 : decode cX7_runs 108 = .ok (.getfield 19, 3) := by decide +kernel
theorem dX7_runs_111 : decode cX7_runs 111 = .ok (.getfield 206, 3) := by decide +kernel
theorem dX7_runs_114 : decode cX7_runs 114 = .ok (.ifCond .ne 8, 3) := by decide +kernel
theorem dX7_runs_117 : decode cX7_runs 117 = .ok (.bipush (-4), 2) := by decide +kernel
theorem dX7_runs_119 : decode cX7_runs 119 = .ok (.goto 10, 3) := by decide +kernel
theorem dX7_runs_122 : decode cX7_runs 122 = .ok (.aload_n 0, 1) := by decide +kernel
theorem dX7_runs_123 : decode cX7_runs 123 = .ok (.getfield 19, 3) := by decide +kernel
theorem dX7_runs_126 : decode cX7_runs 126 = .ok (.getfield 206, 3) := by decide +kernel
theorem dX7_runs_129 : decode cX7_runs 129 = .ok (.ireturn, 1) := by decide +kernel
theorem dX7_ahead_0 : decode cX7_ahead 0 = .ok (.aload_n 0, 1) := by decide +kernel
theorem dX7_ahead_1 : decode cX7_ahead 1 = .ok (.iload_n 1, 1) := by decide +kernel
theorem dX7_ahead_2 : decode cX7_ahead 2 = .ok (.invokevirtual 143, 3) := by decide +kernel
theorem dX7_ahead_5 : decode cX7_ahead 5 = .ok (.ifCond .ne 11, 3) := by decide +kernel
theorem dX7_ahead_8 : decode cX7_ahead 8 = .ok (.iload_n 2, 1) := by decide +kernel
theorem dX7_ahead_9 : decode cX7_ahead 9 = .ok (.iload_n 3, 1) := by decide +kernel
theorem dX7_ahead_10 : decode cX7_ahead 10 = .ok (.invokestatic 209, 3) := by decide +kernel
theorem dX7_ahead_13 : decode cX7_ahead 13 = .ok (.ifCond .eq 5, 3) := by decide +kernel
theorem dX7_ahead_16 : decode cX7_ahead 16 = .ok (.iconst (-1), 1) := by decide +kernel
theorem dX7_ahead_17 : decode cX7_ahead 17 = .ok (.ireturn, 1) := by decide +kernel
theorem dX7_ahead_18 : decode cX7_ahead 18 = .ok (.aload_n 0, 1) := by decide +kernel
theorem dX7_ahead_19 : decode cX7_ahead 19 = .ok (.getfield 19, 3) := by decide +kernel
theorem dX7_ahead_22 : decode cX7_ahead 22 = .ok (.aload_n 0, 1) := by decide +kernel
theorem dX7_ahead_23 : decode cX7_ahead 23 = .ok (.getfield 10, 3) := by decide +kernel
theorem dX7_ahead_26 : decode cX7_ahead 26 = .ok (.invokevirtual 190, 3) := by decide +kernel
theorem dX7_ahead_29 : decode cX7_ahead 29 = .ok (.aload_n 0, 1) := by decide +kernel
theorem dX7_ahead_30 : decode cX7_ahead 30 = .ok (.getfield 19, 3) := by decide +kernel
theorem dX7_ahead_33 : decode cX7_ahead 33 = .ok (.iload_n 2, 1) := by decide +kernel
theorem dX7_ahead_34 : decode cX7_ahead 34 = .ok (.invokevirtual 193, 3) := by decide +kernel
theorem dX7_ahead_37 : decode cX7_ahead 37 = .ok (.iload_n 3, 1) := by decide +kernel
theorem dX7_ahead_38 : decode cX7_ahead 38 = .ok (.ifCond .ne 18, 3) := by decide +kernel
theorem dX7_ahead_41 : decode cX7_ahead 41 = .ok (.aload_n 0, 1) := by decide +kernel
theorem dX7_ahead_42 : decode cX7_ahead 42 = .ok (.getfield 19, 3) := by decide +kernel
theorem dX7_ahead_45 : decode cX7_ahead 45 = .ok (.getfield 78, 3) := by decide +kernel
theorem dX7_ahead_48 : decode cX7_ahead 48 = .ok (.getfield 152, 3) := by decide +kernel
theorem dX7_ahead_51 : decode cX7_ahead 51 = .ok (.iload_n 1, 1) := by decide +kernel
theorem dX7_ahead_52 : decode cX7_ahead 52 = .ok (.iaload, 1) := by decide +kernel
theorem dX7_ahead_53 : decode cX7_ahead 53 = .ok (.goto 15, 3) := by decide +kernel
theorem dX7_ahead_56 : decode cX7_ahead 56 = .ok (.aload_n 0, 1) := by decide +kernel
theorem dX7_ahead_57 : decode cX7_ahead 57 = .ok (.getfield 19, 3) := by decide +kernel
theorem dX7_ahead_60 : decode cX7_ahead 60 = .ok (.getfield 78, 3) := by decide +kernel
theorem dX7_ahead_63 : decode cX7_ahead 63 = .ok (.getfield 155, 3) := by decide +kernel
theorem dX7_ahead_66 : decode cX7_ahead 66 = .ok (.iload_n 1, 1) := by decide +kernel
theorem dX7_ahead_67 : decode cX7_ahead 67 = .ok (.iaload, 1) := by decide +kernel
theorem dX7_ahead_68 : decode cX7_ahead 68 = .ok (.ireturn, 1) := by decide +kernel
theorem dX7_glow_0 : decode cX7_glow 0 = .ok (.iload_n 1, 1) := by decide +kernel
theorem dX7_glow_1 : decode cX7_glow 1 = .ok (.invokestatic 126, 3) := by decide +kernel
theorem dX7_glow_4 : decode cX7_glow 4 = .ok (.ifCond .ne 13, 3) := by decide +kernel
theorem dX7_glow_7 : decode cX7_glow 7 = .ok (.iload_n 2, 1) := by decide +kernel
theorem dX7_glow_8 : decode cX7_glow 8 = .ok (.iconst 0, 1) := by decide +kernel
theorem dX7_glow_9 : decode cX7_glow 9 = .ok (.bipush 60, 2) := by decide +kernel
theorem dX7_glow_11 : decode cX7_glow 11 = .ok (.invokestatic 64, 3) := by decide +kernel
theorem dX7_glow_14 : decode cX7_glow 14 = .ok (.ifCond .eq 5, 3) := by decide +kernel
theorem dX7_glow_17 : decode cX7_glow 17 = .ok (.iconst (-1), 1) := by decide +kernel
theorem dX7_glow_18 : decode cX7_glow 18 = .ok (.ireturn, 1) := by decide +kernel
theorem dX7_glow_19 : decode cX7_glow 19 = .ok (.aload_n 0, 1) := by decide +kernel
theorem dX7_glow_20 : decode cX7_glow 20 = .ok (.getfield 19, 3) := by decide +kernel
theorem dX7_glow_23 : decode cX7_glow 23 = .ok (.aload_n 0, 1) := by decide +kernel
theorem dX7_glow_24 : decode cX7_glow 24 = .ok (.getfield 10, 3) := by decide +kernel
theorem dX7_glow_27 : decode cX7_glow 27 = .ok (.invokevirtual 190, 3) := by decide +kernel
theorem dX7_glow_30 : decode cX7_glow 30 = .ok (.aload_n 0, 1) := by decide +kernel
theorem dX7_glow_31 : decode cX7_glow 31 = .ok (.getfield 19, 3) := by decide +kernel
theorem dX7_glow_34 : decode cX7_glow 34 = .ok (.iload_n 2, 1) := by decide +kernel
theorem dX7_glow_35 : decode cX7_glow 35 = .ok (.invokevirtual 193, 3) := by decide +kernel
theorem dX7_glow_38 : decode cX7_glow 38 = .ok (.aload_n 0, 1) := by decide +kernel
theorem dX7_glow_39 : decode cX7_glow 39 = .ok (.getfield 19, 3) := by decide +kernel
theorem dX7_glow_42 : decode cX7_glow 42 = .ok (.getfield 78, 3) := by decide +kernel
theorem dX7_glow_45 : decode cX7_glow 45 = .ok (.getfield 129, 3) := by decide +kernel
theorem dX7_glow_48 : decode cX7_glow 48 = .ok (.iload_n 1, 1) := by decide +kernel
theorem dX7_glow_49 : decode cX7_glow 49 = .ok (.iaload, 1) := by decide +kernel
theorem dX7_glow_50 : decode cX7_glow 50 = .ok (.ireturn, 1) := by decide +kernel
theorem dX7_caught_0 : decode cX7_caught 0 = .ok (.aload_n 0, 1) := by decide +kernel
theorem dX7_caught_1 : decode cX7_caught 1 = .ok (.iload_n 1, 1) := by decide +kernel
theorem dX7_caught_2 : decode cX7_caught 2 = .ok (.invokevirtual 143, 3) := by decide +kernel
theorem dX7_caught_5 : decode cX7_caught 5 = .ok (.ifCond .eq 5, 3) := by decide +kernel
theorem dX7_caught_8 : decode cX7_caught 8 = .ok (.iconst (-1), 1) := by decide +kernel
theorem dX7_caught_9 : decode cX7_caught 9 = .ok (.ireturn, 1) := by decide +kernel
theorem dX7_caught_10 : decode cX7_caught 10 = .ok (.aload_n 0, 1) := by decide +kernel
theorem dX7_caught_11 : decode cX7_caught 11 = .ok (.getfield 19, 3) := by decide +kernel
theorem dX7_caught_14 : decode cX7_caught 14 = .ok (.aload_n 0, 1) := by decide +kernel
theorem dX7_caught_15 : decode cX7_caught 15 = .ok (.getfield 10, 3) := by decide +kernel
theorem dX7_caught_18 : decode cX7_caught 18 = .ok (.invokevirtual 190, 3) := by decide +kernel
theorem dX7_caught_21 : decode cX7_caught 21 = .ok (.iconst 1, 1) := by decide +kernel
theorem dX7_caught_22 : decode cX7_caught 22 = .ok (.istore_n 2, 1) := by decide +kernel
theorem dX7_caught_23 : decode cX7_caught 23 = .ok (.iload_n 2, 1) := by decide +kernel
theorem dX7_caught_24 : decode cX7_caught 24 = .ok (.bipush 60, 2) := by decide +kernel
theorem dX7_caught_26 : decode cX7_caught 26 = .ok (.if_icmp .gt 30, 3) := by decide +kernel
theorem dX7_caught_29 : decode cX7_caught 29 = .ok (.aload_n 0, 1) := by decide +kernel
theorem dX7_caught_30 : decode cX7_caught 30 = .ok (.getfield 19, 3) := by decide +kernel
theorem dX7_caught_33 : decode cX7_caught 33 = .ok (.iconst 0, 1) := by decide +kernel
theorem dX7_caught_34 : decode cX7_caught 34 = .ok (.invokevirtual 213, 3) := by decide +kernel
theorem dX7_caught_37 : decode cX7_caught 37 = .ok (.aload_n 0, 1) := by decide +kernel
theorem dX7_caught_38 : decode cX7_caught 38 = .ok (.getfield 19, 3) := by decide +kernel
theorem dX7_caught_41 : decode cX7_caught 41 = .ok (.iload_n 1, 1) := by decide +kernel
theorem dX7_caught_42 : decode cX7_caught 42 = .ok (.invokevirtual 217, 3) := by decide +kernel
theorem dX7_caught_45 : decode cX7_caught 45 = .ok (.ifCond .eq 5, 3) := by decide +kernel
theorem dX7_caught_48 : decode cX7_caught 48 = .ok (.iload_n 2, 1) := by decide +kernel
theorem dX7_caught_49 : decode cX7_caught 49 = .ok (.ireturn, 1) := by decide +kernel
theorem dX7_caught_50 : decode cX7_caught 50 = .ok (.iinc 2 1, 3) := by decide +kernel
theorem dX7_caught_53 : decode cX7_caught 53 = .ok (.goto (-30), 3) := by decide +kernel
theorem dX7_caught_56 : decode cX7_caught 56 = .ok (.bipush (-4), 2) := by decide +kernel
theorem dX7_caught_58 : decode cX7_caught 58 = .ok (.ireturn, 1) := by decide +kernel
theorem dX7_best_0 : decode cX7_best 0 = .ok (.aload_n 0, 1) := by decide +kernel
theorem dX7_best_1 : decode cX7_best 1 = .ok (.iload_n 1, 1) := by decide +kernel
theorem dX7_best_2 : decode cX7_best 2 = .ok (.invokevirtual 143, 3) := by decide +kernel
theorem dX7_best_5 : decode cX7_best 5 = .ok (.ifCond .ne 11, 3) := by decide +kernel
theorem dX7_best_8 : decode cX7_best 8 = .ok (.iload_n 2, 1) := by decide +kernel
theorem dX7_best_9 : decode cX7_best 9 = .ok (.iload_n 3, 1) := by decide +kernel
theorem dX7_best_10 : decode cX7_best 10 = .ok (.invokestatic 209, 3) := by decide +kernel
theorem dX7_best_13 : decode cX7_best 13 = .ok (.ifCond .eq 5, 3) := by decide +kernel
theorem dX7_best_16 : decode cX7_best 16 = .ok (.iconst (-1), 1) := by decide +kernel
theorem dX7_best_17 : decode cX7_best 17 = .ok (.ireturn, 1) := by decide +kernel
theorem dX7_best_18 : decode cX7_best 18 = .ok (.aload_n 0, 1) := by decide +kernel
theorem dX7_best_19 : decode cX7_best 19 = .ok (.iload_n 1, 1) := by decide +kernel
theorem dX7_best_20 : decode cX7_best 20 = .ok (.aload_n 0, 1) := by decide +kernel
theorem dX7_best_21 : decode cX7_best 21 = .ok (.getfield 19, 3) := by decide +kernel
theorem dX7_best_24 : decode cX7_best 24 = .ok (.getfield 78, 3) := by decide +kernel
theorem dX7_best_27 : decode cX7_best 27 = .ok (.getfield 149, 3) := by decide +kernel
theorem dX7_best_30 : decode cX7_best 30 = .ok (.iconst 5, 1) := by decide +kernel
theorem dX7_best_31 : decode cX7_best 31 = .ok (.iload_n 2, 1) := by decide +kernel
theorem dX7_best_32 : decode cX7_best 32 = .ok (.iload_n 3, 1) := by decide +kernel
theorem dX7_best_33 : decode cX7_best 33 = .ok (.invokevirtual 220, 3) := by decide +kernel
theorem dX7_best_36 : decode cX7_best 36 = .ok (.ireturn, 1) := by decide +kernel
theorem dX7_ripen_0 : decode cX7_ripen 0 = .ok (.aload_n 0, 1) := by decide +kernel
theorem dX7_ripen_1 : decode cX7_ripen 1 = .ok (.iload_n 1, 1) := by decide +kernel
theorem dX7_ripen_2 : decode cX7_ripen 2 = .ok (.invokevirtual 143, 3) := by decide +kernel
theorem dX7_ripen_5 : decode cX7_ripen 5 = .ok (.ifCond .ne 11, 3) := by decide +kernel
theorem dX7_ripen_8 : decode cX7_ripen 8 = .ok (.iload_n 2, 1) := by decide +kernel
theorem dX7_ripen_9 : decode cX7_ripen 9 = .ok (.iload_n 3, 1) := by decide +kernel
theorem dX7_ripen_10 : decode cX7_ripen 10 = .ok (.invokestatic 209, 3) := by decide +kernel
theorem dX7_ripen_13 : decode cX7_ripen 13 = .ok (.ifCond .eq 5, 3) := by decide +kernel
theorem dX7_ripen_16 : decode cX7_ripen 16 = .ok (.iconst (-1), 1) := by decide +kernel
theorem dX7_ripen_17 : decode cX7_ripen 17 = .ok (.ireturn, 1) := by decide +kernel
theorem dX7_ripen_18 : decode cX7_ripen 18 = .ok (.aload_n 0, 1) := by decide +kernel
theorem dX7_ripen_19 : decode cX7_ripen 19 = .ok (.iload_n 1, 1) := by decide +kernel
theorem dX7_ripen_20 : decode cX7_ripen 20 = .ok (.aload_n 0, 1) := by decide +kernel
theorem dX7_ripen_21 : decode cX7_ripen 21 = .ok (.getfield 19, 3) := by decide +kernel
theorem dX7_ripen_24 : decode cX7_ripen 24 = .ok (.getfield 78, 3) := by decide +kernel
theorem dX7_ripen_27 : decode cX7_ripen 27 = .ok (.getfield 155, 3) := by decide +kernel
theorem dX7_ripen_30 : decode cX7_ripen 30 = .ok (.bipush 20, 2) := by decide +kernel
theorem dX7_ripen_32 : decode cX7_ripen 32 = .ok (.iload_n 2, 1) := by decide +kernel
theorem dX7_ripen_33 : decode cX7_ripen 33 = .ok (.iload_n 3, 1) := by decide +kernel
theorem dX7_ripen_34 : decode cX7_ripen 34 = .ok (.invokevirtual 220, 3) := by decide +kernel
theorem dX7_ripen_37 : decode cX7_ripen 37 = .ok (.ireturn, 1) := by decide +kernel
theorem dX7_swap_0 : decode cX7_swap 0 = .ok (.iload_n 1, 1) := by decide +kernel
theorem dX7_swap_1 : decode cX7_swap 1 = .ok (.iload_n 2, 1) := by decide +kernel
theorem dX7_swap_2 : decode cX7_swap 2 = .ok (.invokestatic 209, 3) := by decide +kernel
theorem dX7_swap_5 : decode cX7_swap 5 = .ok (.ifCond .eq 5, 3) := by decide +kernel
theorem dX7_swap_8 : decode cX7_swap 8 = .ok (.iconst (-1), 1) := by decide +kernel
theorem dX7_swap_9 : decode cX7_swap 9 = .ok (.ireturn, 1) := by decide +kernel
theorem dX7_swap_10 : decode cX7_swap 10 = .ok (.aload_n 0, 1) := by decide +kernel
theorem dX7_swap_11 : decode cX7_swap 11 = .ok (.getfield 19, 3) := by decide +kernel
theorem dX7_swap_14 : decode cX7_swap 14 = .ok (.aload_n 0, 1) := by decide +kernel
theorem dX7_swap_15 : decode cX7_swap 15 = .ok (.getfield 10, 3) := by decide +kernel
theorem dX7_swap_18 : decode cX7_swap 18 = .ok (.invokevirtual 190, 3) := by decide +kernel
theorem dX7_swap_21 : decode cX7_swap 21 = .ok (.aload_n 0, 1) := by decide +kernel
theorem dX7_swap_22 : decode cX7_swap 22 = .ok (.getfield 19, 3) := by decide +kernel
theorem dX7_swap_25 : decode cX7_swap 25 = .ok (.iload_n 1, 1) := by decide +kernel
theorem dX7_swap_26 : decode cX7_swap 26 = .ok (.invokevirtual 193, 3) := by decide +kernel
theorem dX7_swap_29 : decode cX7_swap 29 = .ok (.bipush (-4), 2) := by decide +kernel
theorem dX7_swap_31 : decode cX7_swap 31 = .ok (.istore_n 3, 1) := by decide +kernel
theorem dX7_swap_32 : decode cX7_swap 32 = .ok (.aload_n 0, 1) := by decide +kernel
theorem dX7_swap_33 : decode cX7_swap 33 = .ok (.getfield 19, 3) := by decide +kernel
theorem dX7_swap_36 : decode cX7_swap 36 = .ok (.getfield 197, 3) := by decide +kernel
theorem dX7_swap_39 : decode cX7_swap 39 = .ok (.istore 4, 2) := by decide +kernel
theorem dX7_swap_41 : decode cX7_swap 41 = .ok (.iconst 0, 1) := by decide +kernel
theorem dX7_swap_42 : decode cX7_swap 42 = .ok (.istore 5, 2) := by decide +kernel
theorem dX7_swap_44 : decode cX7_swap 44 = .ok (.iload 5, 2) := by decide +kernel
theorem dX7_swap_46 : decode cX7_swap 46 = .ok (.aload_n 0, 1) := by decide +kernel
theorem dX7_swap_47 : decode cX7_swap 47 = .ok (.getfield 10, 3) := by decide +kernel
theorem dX7_swap_50 : decode cX7_swap 50 = .ok (.getfield 101, 3) := by decide +kernel
theorem dX7_swap_53 : decode cX7_swap 53 = .ok (.if_icmp .ge 128, 3) := by decide +kernel
theorem dX7_swap_56 : decode cX7_swap 56 = .ok (.iload 5, 2) := by decide +kernel
theorem dX7_swap_58 : decode cX7_swap 58 = .ok (.iconst 1, 1) := by decide +kernel
theorem dX7_swap_59 : decode cX7_swap 59 = .ok (.iadd, 1) := by decide +kernel
theorem dX7_swap_60 : decode cX7_swap 60 = .ok (.istore 6, 2) := by decide +kernel
theorem dX7_swap_62 : decode cX7_swap 62 = .ok (.iload 6, 2) := by decide +kernel
theorem dX7_swap_64 : decode cX7_swap 64 = .ok (.aload_n 0, 1) := by decide +kernel
theorem dX7_swap_65 : decode cX7_swap 65 = .ok (.getfield 10, 3) := by decide +kernel
theorem dX7_swap_68 : decode cX7_swap 68 = .ok (.getfield 101, 3) := by decide +kernel
theorem dX7_swap_71 : decode cX7_swap 71 = .ok (.if_icmp .ge 104, 3) := by decide +kernel
theorem dX7_swap_74 : decode cX7_swap 74 = .ok (.aload_n 0, 1) := by decide +kernel
theorem dX7_swap_75 : decode cX7_swap 75 = .ok (.getfield 19, 3) := by decide +kernel
theorem dX7_swap_78 : decode cX7_swap 78 = .ok (.aload_n 0, 1) := by decide +kernel
theorem dX7_swap_79 : decode cX7_swap 79 = .ok (.getfield 10, 3) := by decide +kernel
theorem dX7_swap_82 : decode cX7_swap 82 = .ok (.invokevirtual 190, 3) := by decide +kernel
theorem dX7_swap_85 : decode cX7_swap 85 = .ok (.aload_n 0, 1) := by decide +kernel
theorem dX7_swap_86 : decode cX7_swap 86 = .ok (.getfield 19, 3) := by decide +kernel
theorem dX7_swap_89 : decode cX7_swap 89 = .ok (.getfield 78, 3) := by decide +kernel
theorem dX7_swap_92 : decode cX7_swap 92 = .ok (.getfield 149, 3) := by decide +kernel
theorem dX7_swap_95 : decode cX7_swap 95 = .ok (.iload 5, 2) := by decide +kernel
theorem dX7_swap_97 : decode cX7_swap 97 = .ok (.aload_n 0, 1) := by decide +kernel
theorem dX7_swap_98 : decode cX7_swap 98 = .ok (.getfield 10, 3) := by decide +kernel
theorem dX7_swap_101 : decode cX7_swap 101 = .ok (.getfield 149, 3) := by decide +kernel
theorem dX7_swap_104 : decode cX7_swap 104 = .ok (.iload 6, 2) := by decide +kernel
theorem dX7_swap_106 : decode cX7_swap 106 = .ok (.iaload, 1) := by decide +kernel
theorem dX7_swap_107 : decode cX7_swap 107 = .ok (.iastore, 1) := by decide +kernel
theorem dX7_swap_108 : decode cX7_swap 108 = .ok (.aload_n 0, 1) := by decide +kernel
theorem dX7_swap_109 : decode cX7_swap 109 = .ok (.getfield 19, 3) := by decide +kernel
theorem dX7_swap_112 : decode cX7_swap 112 = .ok (.getfield 78, 3) := by decide +kernel
theorem dX7_swap_115 : decode cX7_swap 115 = .ok (.getfield 149, 3) := by decide +kernel
theorem dX7_swap_118 : decode cX7_swap 118 = .ok (.iload 6, 2) := by decide +kernel
theorem dX7_swap_120 : decode cX7_swap 120 = .ok (.aload_n 0, 1) := by decide +kernel
theorem dX7_swap_121 : decode cX7_swap 121 = .ok (.getfield 10, 3) := by decide +kernel
theorem dX7_swap_124 : decode cX7_swap 124 = .ok (.getfield 149, 3) := by decide +kernel
theorem dX7_swap_127 : decode cX7_swap 127 = .ok (.iload 5, 2) := by decide +kernel
theorem dX7_swap_129 : decode cX7_swap 129 = .ok (.iaload, 1) := by decide +kernel
theorem dX7_swap_130 : decode cX7_swap 130 = .ok (.iastore, 1) := by decide +kernel
theorem dX7_swap_131 : decode cX7_swap 131 = .ok (.aload_n 0, 1) := by decide +kernel
theorem dX7_swap_132 : decode cX7_swap 132 = .ok (.getfield 19, 3) := by decide +kernel
theorem dX7_swap_135 : decode cX7_swap 135 = .ok (.iload_n 1, 1) := by decide +kernel
theorem dX7_swap_136 : decode cX7_swap 136 = .ok (.invokevirtual 193, 3) := by decide +kernel
theorem dX7_swap_139 : decode cX7_swap 139 = .ok (.aload_n 0, 1) := by decide +kernel
theorem dX7_swap_140 : decode cX7_swap 140 = .ok (.getfield 19, 3) := by decide +kernel
theorem dX7_swap_143 : decode cX7_swap 143 = .ok (.getfield 197, 3) := by decide +kernel
theorem dX7_swap_146 : decode cX7_swap 146 = .ok (.iload 4, 2) := by decide +kernel
theorem dX7_swap_148 : decode cX7_swap 148 = .ok (.if_icmp .le 21, 3) := by decide +kernel
theorem dX7_swap_151 : decode cX7_swap 151 = .ok (.aload_n 0, 1) := by decide +kernel
theorem dX7_swap_152 : decode cX7_swap 152 = .ok (.getfield 19, 3) := by decide +kernel
theorem dX7_swap_155 : decode cX7_swap 155 = .ok (.getfield 197, 3) := by decide +kernel
theorem dX7_swap_158 : decode cX7_swap 158 = .ok (.istore 4, 2) := by decide +kernel
theorem dX7_swap_160 : decode cX7_swap 160 = .ok (.bipush 10, 2) := by decide +kernel
theorem dX7_swap_162 : decode cX7_swap 162 = .ok (.iload 5, 2) := by decide +kernel
theorem dX7_swap_164 : decode cX7_swap 164 = .ok (.imul, 1) := by decide +kernel
theorem dX7_swap_165 : decode cX7_swap 165 = .ok (.iload 6, 2) := by decide +kernel
theorem dX7_swap_167 : decode cX7_swap 167 = .ok (.iadd, 1) := by decide +kernel
theorem dX7_swap_168 : decode cX7_swap 168 = .ok (.istore_n 3, 1) := by decide +kernel
theorem dX7_swap_169 : decode cX7_swap 169 = .ok (.iinc 6 1, 3) := by decide +kernel
theorem dX7_swap_172 : decode cX7_swap 172 = .ok (.goto (-110), 3) := by decide +kernel
theorem dX7_swap_175 : decode cX7_swap 175 = .ok (.iinc 5 1, 3) := by decide +kernel
theorem dX7_swap_178 : decode cX7_swap 178 = .ok (.goto (-134), 3) := by decide +kernel
theorem dX7_swap_181 : decode cX7_swap 181 = .ok (.iload_n 2, 1) := by decide +kernel
theorem dX7_swap_182 : decode cX7_swap 182 = .ok (.ifCond .eq 9, 3) := by decide +kernel
theorem dX7_swap_185 : decode cX7_swap 185 = .ok (.iload_n 3, 1) := by decide +kernel
theorem dX7_swap_186 : decode cX7_swap 186 = .ok (.bipush (-4), 2) := by decide +kernel
theorem dX7_swap_188 : decode cX7_swap 188 = .ok (.if_icmp .ne 7, 3) := by decide +kernel
theorem dX7_swap_191 : decode cX7_swap 191 = .ok (.iload_n 3, 1) := by decide +kernel
theorem dX7_swap_192 : decode cX7_swap 192 = .ok (.goto 5, 3) := by decide +kernel
theorem dX7_swap_195 : decode cX7_swap 195 = .ok (.iload 4, 2) := by decide +kernel
theorem dX7_swap_197 : decode cX7_swap 197 = .ok (.ireturn, 1) := by decide +kernel
theorem dX7_round_0 : decode cX7_round 0 = .ok (.aload_n 0, 1) := by decide +kernel
theorem dX7_round_1 : decode cX7_round 1 = .ok (.iload_n 1, 1) := by decide +kernel
theorem dX7_round_2 : decode cX7_round 2 = .ok (.invokevirtual 164, 3) := by decide +kernel
theorem dX7_round_5 : decode cX7_round 5 = .ok (.ifCond .ne 11, 3) := by decide +kernel
theorem dX7_round_8 : decode cX7_round 8 = .ok (.iload_n 2, 1) := by decide +kernel
theorem dX7_round_9 : decode cX7_round 9 = .ok (.iload_n 3, 1) := by decide +kernel
theorem dX7_round_10 : decode cX7_round 10 = .ok (.invokestatic 209, 3) := by decide +kernel
theorem dX7_round_13 : decode cX7_round 13 = .ok (.ifCond .eq 5, 3) := by decide +kernel
theorem dX7_round_16 : decode cX7_round 16 = .ok (.iconst (-1), 1) := by decide +kernel
theorem dX7_round_17 : decode cX7_round 17 = .ok (.ireturn, 1) := by decide +kernel
theorem dX7_round_18 : decode cX7_round 18 = .ok (.iconst 0, 1) := by decide +kernel
theorem dX7_round_19 : decode cX7_round 19 = .ok (.istore 4, 2) := by decide +kernel
theorem dX7_round_21 : decode cX7_round 21 = .ok (.iconst (-1), 1) := by decide +kernel
theorem dX7_round_22 : decode cX7_round 22 = .ok (.istore 5, 2) := by decide +kernel
theorem dX7_round_24 : decode cX7_round 24 = .ok (.iconst 0, 1) := by decide +kernel
theorem dX7_round_25 : decode cX7_round 25 = .ok (.istore 6, 2) := by decide +kernel
theorem dX7_round_27 : decode cX7_round 27 = .ok (.iload 6, 2) := by decide +kernel
theorem dX7_round_29 : decode cX7_round 29 = .ok (.bipush 6, 2) := by decide +kernel
theorem dX7_round_31 : decode cX7_round 31 = .ok (.if_icmp .ge 102, 3) := by decide +kernel
theorem dX7_round_34 : decode cX7_round 34 = .ok (.iconst 0, 1) := by decide +kernel
theorem dX7_round_35 : decode cX7_round 35 = .ok (.istore 7, 2) := by decide +kernel
theorem dX7_round_37 : decode cX7_round 37 = .ok (.iload 7, 2) := by decide +kernel
theorem dX7_round_39 : decode cX7_round 39 = .ok (.iconst 5, 1) := by decide +kernel
theorem dX7_round_40 : decode cX7_round 40 = .ok (.if_icmp .gt 87, 3) := by decide +kernel
theorem dX7_round_43 : decode cX7_round 43 = .ok (.aload_n 0, 1) := by decide +kernel
theorem dX7_round_44 : decode cX7_round 44 = .ok (.getfield 19, 3) := by decide +kernel
theorem dX7_round_47 : decode cX7_round 47 = .ok (.aload_n 0, 1) := by decide +kernel
theorem dX7_round_48 : decode cX7_round 48 = .ok (.getfield 10, 3) := by decide +kernel
theorem dX7_round_51 : decode cX7_round 51 = .ok (.invokevirtual 190, 3) := by decide +kernel
theorem dX7_round_54 : decode cX7_round 54 = .ok (.aload_n 0, 1) := by decide +kernel
theorem dX7_round_55 : decode cX7_round 55 = .ok (.getfield 19, 3) := by decide +kernel
theorem dX7_round_58 : decode cX7_round 58 = .ok (.getfield 78, 3) := by decide +kernel
theorem dX7_round_61 : decode cX7_round 61 = .ok (.getfield 167, 3) := by decide +kernel
theorem dX7_round_64 : decode cX7_round 64 = .ok (.iload_n 1, 1) := by decide +kernel
theorem dX7_round_65 : decode cX7_round 65 = .ok (.iload 6, 2) := by decide +kernel
theorem dX7_round_67 : decode cX7_round 67 = .ok (.iastore, 1) := by decide +kernel
theorem dX7_round_68 : decode cX7_round 68 = .ok (.aload_n 0, 1) := by decide +kernel
theorem dX7_round_69 : decode cX7_round 69 = .ok (.getfield 19, 3) := by decide +kernel
theorem dX7_round_72 : decode cX7_round 72 = .ok (.getfield 78, 3) := by decide +kernel
theorem dX7_round_75 : decode cX7_round 75 = .ok (.getfield 170, 3) := by decide +kernel
theorem dX7_round_78 : decode cX7_round 78 = .ok (.iload_n 1, 1) := by decide +kernel
theorem dX7_round_79 : decode cX7_round 79 = .ok (.iload 7, 2) := by decide +kernel
theorem dX7_round_81 : decode cX7_round 81 = .ok (.iastore, 1) := by decide +kernel
theorem dX7_round_82 : decode cX7_round 82 = .ok (.aload_n 0, 1) := by decide +kernel
theorem dX7_round_83 : decode cX7_round 83 = .ok (.getfield 19, 3) := by decide +kernel
theorem dX7_round_86 : decode cX7_round 86 = .ok (.iload_n 2, 1) := by decide +kernel
theorem dX7_round_87 : decode cX7_round 87 = .ok (.invokevirtual 193, 3) := by decide +kernel
theorem dX7_round_90 : decode cX7_round 90 = .ok (.aload_n 0, 1) := by decide +kernel
theorem dX7_round_91 : decode cX7_round 91 = .ok (.getfield 19, 3) := by decide +kernel
theorem dX7_round_94 : decode cX7_round 94 = .ok (.getfield 203, 3) := by decide +kernel
theorem dX7_round_97 : decode cX7_round 97 = .ok (.iload 5, 2) := by decide +kernel
theorem dX7_round_99 : decode cX7_round 99 = .ok (.if_icmp .le 22, 3) := by decide +kernel
theorem dX7_round_102 : decode cX7_round 102 = .ok (.aload_n 0, 1) := by decide +kernel
theorem dX7_round_103 : decode cX7_round 103 = .ok (.getfield 19, 3) := by decide +kernel
theorem dX7_round_106 : decode cX7_round 106 = .ok (.getfield 203, 3) := by decide +kernel
theorem dX7_round_109 : decode cX7_round 109 = .ok (.istore 5, 2) := by decide +kernel
theorem dX7_round_111 : decode cX7_round 111 = .ok (.bipush 10, 2) := by decide +kernel
theorem dX7_round_113 : decode cX7_round 113 = .ok (.iload 6, 2) := by decide +kernel
theorem dX7_round_115 : decode cX7_round 115 = .ok (.imul, 1) := by decide +kernel
theorem dX7_round_116 : decode cX7_round 116 = .ok (.iload 7, 2) := by decide +kernel
theorem dX7_round_118 : decode cX7_round 118 = .ok (.iadd, 1) := by decide +kernel
theorem dX7_round_119 : decode cX7_round 119 = .ok (.istore 4, 2) := by decide +kernel
theorem dX7_round_121 : decode cX7_round 121 = .ok (.iinc 7 1, 3) := by decide +kernel
theorem dX7_round_124 : decode cX7_round 124 = .ok (.goto (-87), 3) := by decide +kernel
theorem dX7_round_127 : decode cX7_round 127 = .ok (.iinc 6 1, 3) := by decide +kernel
theorem dX7_round_130 : decode cX7_round 130 = .ok (.goto (-103), 3) := by decide +kernel
theorem dX7_round_133 : decode cX7_round 133 = .ok (.iload_n 3, 1) := by decide +kernel
theorem dX7_round_134 : decode cX7_round 134 = .ok (.ifCond .ne 8, 3) := by decide +kernel
theorem dX7_round_137 : decode cX7_round 137 = .ok (.iload 4, 2) := by decide +kernel
theorem dX7_round_139 : decode cX7_round 139 = .ok (.goto 5, 3) := by decide +kernel
theorem dX7_round_142 : decode cX7_round 142 = .ok (.iload 5, 2) := by decide +kernel
theorem dX7_round_144 : decode cX7_round 144 = .ok (.ireturn, 1) := by decide +kernel
theorem dX7_post_0 : decode cX7_post 0 = .ok (.iload_n 1, 1) := by decide +kernel
theorem dX7_post_1 : decode cX7_post 1 = .ok (.iconst 1, 1) := by decide +kernel
theorem dX7_post_2 : decode cX7_post 2 = .ok (.bipush 9, 2) := by decide +kernel
theorem dX7_post_4 : decode cX7_post 4 = .ok (.invokestatic 64, 3) := by decide +kernel
theorem dX7_post_7 : decode cX7_post 7 = .ok (.ifCond .ne 11, 3) := by decide +kernel
theorem dX7_post_10 : decode cX7_post 10 = .ok (.iload_n 2, 1) := by decide +kernel
theorem dX7_post_11 : decode cX7_post 11 = .ok (.iload_n 3, 1) := by decide +kernel
theorem dX7_post_12 : decode cX7_post 12 = .ok (.invokestatic 209, 3) := by decide +kernel
theorem dX7_post_15 : decode cX7_post 15 = .ok (.ifCond .eq 5, 3) := by decide +kernel
theorem dX7_post_18 : decode cX7_post 18 = .ok (.iconst (-1), 1) := by decide +kernel
theorem dX7_post_19 : decode cX7_post 19 = .ok (.ireturn, 1) := by decide +kernel
theorem dX7_post_20 : decode cX7_post 20 = .ok (.aload_n 0, 1) := by decide +kernel
theorem dX7_post_21 : decode cX7_post 21 = .ok (.getfield 10, 3) := by decide +kernel
theorem dX7_post_24 : decode cX7_post 24 = .ok (.getfield 104, 3) := by decide +kernel
theorem dX7_post_27 : decode cX7_post 27 = .ok (.iconst 3, 1) := by decide +kernel
theorem dX7_post_28 : decode cX7_post 28 = .ok (.if_icmp .lt 6, 3) := by decide +kernel
theorem dX7_post_31 : decode cX7_post 31 = .ok (.bipush (-3), 2) := by decide +kernel
theorem dX7_post_33 : decode cX7_post 33 = .ok (.ireturn, 1) := by decide +kernel
theorem dX7_post_34 : decode cX7_post 34 = .ok (.bipush (-4), 2) := by decide +kernel
theorem dX7_post_36 : decode cX7_post 36 = .ok (.istore 4, 2) := by decide +kernel
theorem dX7_post_38 : decode cX7_post 38 = .ok (.iconst 0, 1) := by decide +kernel
theorem dX7_post_39 : decode cX7_post 39 = .ok (.istore 5, 2) := by decide +kernel
theorem dX7_post_41 : decode cX7_post 41 = .ok (.iconst 0, 1) := by decide +kernel
theorem dX7_post_42 : decode cX7_post 42 = .ok (.istore 6, 2) := by decide +kernel
theorem dX7_post_44 : decode cX7_post 44 = .ok (.iload 6, 2) := by decide +kernel
theorem dX7_post_46 : decode cX7_post 46 = .ok (.bipush 6, 2) := by decide +kernel
theorem dX7_post_48 : decode cX7_post 48 = .ok (.if_icmp .ge 75, 3) := by decide +kernel
theorem dX7_post_51 : decode cX7_post 51 = .ok (.aload_n 0, 1) := by decide +kernel
theorem dX7_post_52 : decode cX7_post 52 = .ok (.getfield 19, 3) := by decide +kernel
theorem dX7_post_55 : decode cX7_post 55 = .ok (.aload_n 0, 1) := by decide +kernel
theorem dX7_post_56 : decode cX7_post 56 = .ok (.getfield 10, 3) := by decide +kernel
theorem dX7_post_59 : decode cX7_post 59 = .ok (.invokevirtual 190, 3) := by decide +kernel
theorem dX7_post_62 : decode cX7_post 62 = .ok (.aload_n 0, 1) := by decide +kernel
theorem dX7_post_63 : decode cX7_post 63 = .ok (.getfield 19, 3) := by decide +kernel
theorem dX7_post_66 : decode cX7_post 66 = .ok (.getfield 78, 3) := by decide +kernel
theorem dX7_post_69 : decode cX7_post 69 = .ok (.iload 6, 2) := by decide +kernel
theorem dX7_post_71 : decode cX7_post 71 = .ok (.iconst 0, 1) := by decide +kernel
theorem dX7_post_72 : decode cX7_post 72 = .ok (.iload_n 1, 1) := by decide +kernel
theorem dX7_post_73 : decode cX7_post 73 = .ok (.invokevirtual 183, 3) := by decide +kernel
theorem dX7_post_76 : decode cX7_post 76 = .ok (.pop, 1) := by decide +kernel
theorem dX7_post_77 : decode cX7_post 77 = .ok (.aload_n 0, 1) := by decide +kernel
theorem dX7_post_78 : decode cX7_post 78 = .ok (.getfield 19, 3) := by decide +kernel
theorem dX7_post_81 : decode cX7_post 81 = .ok (.iload_n 2, 1) := by decide +kernel
theorem dX7_post_82 : decode cX7_post 82 = .ok (.invokevirtual 193, 3) := by decide +kernel
theorem dX7_post_85 : decode cX7_post 85 = .ok (.iload 4, 2) := by decide +kernel
theorem dX7_post_87 : decode cX7_post 87 = .ok (.bipush (-4), 2) := by decide +kernel
theorem dX7_post_89 : decode cX7_post 89 = .ok (.if_icmp .eq 15, 3) := by decide +kernel
theorem dX7_post_92 : decode cX7_post 92 = .ok (.aload_n 0, 1) := by decide +kernel
theorem dX7_post_93 : decode cX7_post 93 = .ok (.getfield 19, 3) := by decide +kernel
theorem dX7_post_96 : decode cX7_post 96 = .ok (.getfield 197, 3) := by decide +kernel
theorem dX7_post_99 : decode cX7_post 99 = .ok (.iload 5, 2) := by decide +kernel
theorem dX7_post_101 : decode cX7_post 101 = .ok (.if_icmp .ge 16, 3) := by decide +kernel
theorem dX7_post_104 : decode cX7_post 104 = .ok (.aload_n 0, 1) := by decide +kernel
theorem dX7_post_105 : decode cX7_post 105 = .ok (.getfield 19, 3) := by decide +kernel
theorem dX7_post_108 : decode cX7_post 108 = .ok (.getfield 197, 3) := by decide +kernel
theorem dX7_post_111 : decode cX7_post 111 = .ok (.istore 5, 2) := by decide +kernel
theorem dX7_post_113 : decode cX7_post 113 = .ok (.iload 6, 2) := by decide +kernel
theorem dX7_post_115 : decode cX7_post 115 = .ok (.istore 4, 2) := by decide +kernel
theorem dX7_post_117 : decode cX7_post 117 = .ok (.iinc 6 1, 3) := by decide +kernel
theorem dX7_post_120 : decode cX7_post 120 = .ok (.goto (-76), 3) := by decide +kernel
theorem dX7_post_123 : decode cX7_post 123 = .ok (.iload_n 3, 1) := by decide +kernel
theorem dX7_post_124 : decode cX7_post 124 = .ok (.ifCond .ne 8, 3) := by decide +kernel
theorem dX7_post_127 : decode cX7_post 127 = .ok (.iload 4, 2) := by decide +kernel
theorem dX7_post_129 : decode cX7_post 129 = .ok (.goto 5, 3) := by decide +kernel
theorem dX7_post_132 : decode cX7_post 132 = .ok (.iload 5, 2) := by decide +kernel
theorem dX7_post_134 : decode cX7_post 134 = .ok (.ireturn, 1) := by decide +kernel
theorem dX7_kind_0 : decode cX7_kind 0 = .ok (.aload_n 0, 1) := by decide +kernel
theorem dX7_kind_1 : decode cX7_kind 1 = .ok (.iload_n 1, 1) := by decide +kernel
theorem dX7_kind_2 : decode cX7_kind 2 = .ok (.invokevirtual 143, 3) := by decide +kernel
theorem dX7_kind_5 : decode cX7_kind 5 = .ok (.ifCond .ne 11, 3) := by decide +kernel
theorem dX7_kind_8 : decode cX7_kind 8 = .ok (.iload_n 2, 1) := by decide +kernel
theorem dX7_kind_9 : decode cX7_kind 9 = .ok (.iload_n 3, 1) := by decide +kernel
theorem dX7_kind_10 : decode cX7_kind 10 = .ok (.invokestatic 209, 3) := by decide +kernel
theorem dX7_kind_13 : decode cX7_kind 13 = .ok (.ifCond .eq 5, 3) := by decide +kernel
theorem dX7_kind_16 : decode cX7_kind 16 = .ok (.iconst (-1), 1) := by decide +kernel
theorem dX7_kind_17 : decode cX7_kind 17 = .ok (.ireturn, 1) := by decide +kernel
theorem dX7_kind_18 : decode cX7_kind 18 = .ok (.aload_n 0, 1) := by decide +kernel
theorem dX7_kind_19 : decode cX7_kind 19 = .ok (.iload_n 1, 1) := by decide +kernel
theorem dX7_kind_20 : decode cX7_kind 20 = .ok (.aload_n 0, 1) := by decide +kernel
theorem dX7_kind_21 : decode cX7_kind 21 = .ok (.getfield 19, 3) := by decide +kernel
theorem dX7_kind_24 : decode cX7_kind 24 = .ok (.getfield 78, 3) := by decide +kernel
theorem dX7_kind_27 : decode cX7_kind 27 = .ok (.getfield 146, 3) := by decide +kernel
theorem dX7_kind_30 : decode cX7_kind 30 = .ok (.iconst 3, 1) := by decide +kernel
theorem dX7_kind_31 : decode cX7_kind 31 = .ok (.iload_n 2, 1) := by decide +kernel
theorem dX7_kind_32 : decode cX7_kind 32 = .ok (.iload_n 3, 1) := by decide +kernel
theorem dX7_kind_33 : decode cX7_kind 33 = .ok (.invokevirtual 220, 3) := by decide +kernel
theorem dX7_kind_36 : decode cX7_kind 36 = .ok (.ireturn, 1) := by decide +kernel
theorem dX7_sharp_0 : decode cX7_sharp 0 = .ok (.aload_n 0, 1) := by decide +kernel
theorem dX7_sharp_1 : decode cX7_sharp 1 = .ok (.iload_n 1, 1) := by decide +kernel
theorem dX7_sharp_2 : decode cX7_sharp 2 = .ok (.invokevirtual 164, 3) := by decide +kernel
theorem dX7_sharp_5 : decode cX7_sharp 5 = .ok (.ifCond .ne 21, 3) := by decide +kernel
theorem dX7_sharp_8 : decode cX7_sharp 8 = .ok (.aload_n 0, 1) := by decide +kernel
theorem dX7_sharp_9 : decode cX7_sharp 9 = .ok (.iload_n 2, 1) := by decide +kernel
theorem dX7_sharp_10 : decode cX7_sharp 10 = .ok (.invokevirtual 143, 3) := by decide +kernel
theorem dX7_sharp_13 : decode cX7_sharp 13 = .ok (.ifCond .ne 13, 3) := by decide +kernel
theorem dX7_sharp_16 : decode cX7_sharp 16 = .ok (.iload_n 3, 1) := by decide +kernel
theorem dX7_sharp_17 : decode cX7_sharp 17 = .ok (.iconst 0, 1) := by decide +kernel
theorem dX7_sharp_18 : decode cX7_sharp 18 = .ok (.bipush 60, 2) := by decide +kernel
theorem dX7_sharp_20 : decode cX7_sharp 20 = .ok (.invokestatic 64, 3) := by decide +kernel
theorem dX7_sharp_23 : decode cX7_sharp 23 = .ok (.ifCond .eq 5, 3) := by decide +kernel
theorem dX7_sharp_26 : decode cX7_sharp 26 = .ok (.iconst (-1), 1) := by decide +kernel
theorem dX7_sharp_27 : decode cX7_sharp 27 = .ok (.ireturn, 1) := by decide +kernel
theorem dX7_sharp_28 : decode cX7_sharp 28 = .ok (.bipush 9, 2) := by decide +kernel
theorem dX7_sharp_30 : decode cX7_sharp 30 = .ok (.istore 4, 2) := by decide +kernel
theorem dX7_sharp_32 : decode cX7_sharp 32 = .ok (.iload 4, 2) := by decide +kernel
theorem dX7_sharp_34 : decode cX7_sharp 34 = .ok (.iconst 1, 1) := by decide +kernel
theorem dX7_sharp_35 : decode cX7_sharp 35 = .ok (.if_icmp .lt 56, 3) := by decide +kernel
theorem dX7_sharp_38 : decode cX7_sharp 38 = .ok (.aload_n 0, 1) := by decide +kernel
theorem dX7_sharp_39 : decode cX7_sharp 39 = .ok (.getfield 19, 3) := by decide +kernel
theorem dX7_sharp_42 : decode cX7_sharp 42 = .ok (.aload_n 0, 1) := by decide +kernel
theorem dX7_sharp_43 : decode cX7_sharp 43 = .ok (.getfield 10, 3) := by decide +kernel
theorem dX7_sharp_46 : decode cX7_sharp 46 = .ok (.invokevirtual 190, 3) := by decide +kernel
theorem dX7_sharp_49 : decode cX7_sharp 49 = .ok (.aload_n 0, 1) := by decide +kernel
theorem dX7_sharp_50 : decode cX7_sharp 50 = .ok (.getfield 19, 3) := by decide +kernel
theorem dX7_sharp_53 : decode cX7_sharp 53 = .ok (.getfield 78, 3) := by decide +kernel
theorem dX7_sharp_56 : decode cX7_sharp 56 = .ok (.getfield 173, 3) := by decide +kernel
theorem dX7_sharp_59 : decode cX7_sharp 59 = .ok (.iload_n 1, 1) := by decide +kernel
theorem dX7_sharp_60 : decode cX7_sharp 60 = .ok (.iload 4, 2) := by decide +kernel
theorem dX7_sharp_62 : decode cX7_sharp 62 = .ok (.iastore, 1) := by decide +kernel
theorem dX7_sharp_63 : decode cX7_sharp 63 = .ok (.aload_n 0, 1) := by decide +kernel
theorem dX7_sharp_64 : decode cX7_sharp 64 = .ok (.getfield 19, 3) := by decide +kernel
theorem dX7_sharp_67 : decode cX7_sharp 67 = .ok (.iload_n 3, 1) := by decide +kernel
theorem dX7_sharp_68 : decode cX7_sharp 68 = .ok (.invokevirtual 193, 3) := by decide +kernel
theorem dX7_sharp_71 : decode cX7_sharp 71 = .ok (.aload_n 0, 1) := by decide +kernel
theorem dX7_sharp_72 : decode cX7_sharp 72 = .ok (.getfield 19, 3) := by decide +kernel
theorem dX7_sharp_75 : decode cX7_sharp 75 = .ok (.iload_n 2, 1) := by decide +kernel
theorem dX7_sharp_76 : decode cX7_sharp 76 = .ok (.invokevirtual 217, 3) := by decide +kernel
theorem dX7_sharp_79 : decode cX7_sharp 79 = .ok (.ifCond .eq 6, 3) := by decide +kernel
theorem dX7_sharp_82 : decode cX7_sharp 82 = .ok (.iload 4, 2) := by decide +kernel
theorem dX7_sharp_84 : decode cX7_sharp 84 = .ok (.ireturn, 1) := by decide +kernel
theorem dX7_sharp_85 : decode cX7_sharp 85 = .ok (.iinc 4 (-1), 3) := by decide +kernel
theorem dX7_sharp_88 : decode cX7_sharp 88 = .ok (.goto (-56), 3) := by decide +kernel
theorem dX7_sharp_91 : decode cX7_sharp 91 = .ok (.bipush (-4), 2) := by decide +kernel
theorem dX7_sharp_93 : decode cX7_sharp 93 = .ok (.ireturn, 1) := by decide +kernel
theorem dX7_luck_0 : decode cX7_luck 0 = .ok (.aload_n 0, 1) := by decide +kernel
theorem dX7_luck_1 : decode cX7_luck 1 = .ok (.iload_n 2, 1) := by decide +kernel
theorem dX7_luck_2 : decode cX7_luck 2 = .ok (.invokevirtual 143, 3) := by decide +kernel
theorem dX7_luck_5 : decode cX7_luck 5 = .ok (.ifCond .ne 13, 3) := by decide +kernel
theorem dX7_luck_8 : decode cX7_luck 8 = .ok (.iload_n 1, 1) := by decide +kernel
theorem dX7_luck_9 : decode cX7_luck 9 = .ok (.iload_n 3, 1) := by decide +kernel
theorem dX7_luck_10 : decode cX7_luck 10 = .ok (.iload 4, 2) := by decide +kernel
theorem dX7_luck_12 : decode cX7_luck 12 = .ok (.invokestatic 224, 3) := by decide +kernel
theorem dX7_luck_15 : decode cX7_luck 15 = .ok (.ifCond .eq 7, 3) := by decide +kernel
theorem dX7_luck_18 : decode cX7_luck 18 = .ok (.ldc2_w 227, 3) := by decide +kernel
theorem dX7_luck_21 : decode cX7_luck 21 = .ok (.lreturn, 1) := by decide +kernel
theorem dX7_luck_22 : decode cX7_luck 22 = .ok (.lconst 1, 1) := by decide +kernel
theorem dX7_luck_23 : decode cX7_luck 23 = .ok (.lstore 5, 2) := by decide +kernel
theorem dX7_luck_25 : decode cX7_luck 25 = .ok (.lconst 1, 1) := by decide +kernel
theorem dX7_luck_26 : decode cX7_luck 26 = .ok (.lstore 7, 2) := by decide +kernel
theorem dX7_luck_28 : decode cX7_luck 28 = .ok (.aload_n 0, 1) := by decide +kernel
theorem dX7_luck_29 : decode cX7_luck 29 = .ok (.getfield 19, 3) := by decide +kernel
theorem dX7_luck_32 : decode cX7_luck 32 = .ok (.aload_n 0, 1) := by decide +kernel
theorem dX7_luck_33 : decode cX7_luck 33 = .ok (.getfield 10, 3) := by decide +kernel
theorem dX7_luck_36 : decode cX7_luck 36 = .ok (.invokevirtual 190, 3) := by decide +kernel
theorem dX7_luck_39 : decode cX7_luck 39 = .ok (.iconst 0, 1) := by decide +kernel
theorem dX7_luck_40 : decode cX7_luck 40 = .ok (.istore 9, 2) := by decide +kernel
theorem dX7_luck_42 : decode cX7_luck 42 = .ok (.iload 9, 2) := by decide +kernel
theorem dX7_luck_44 : decode cX7_luck 44 = .ok (.iload_n 3, 1) := by decide +kernel
theorem dX7_luck_45 : decode cX7_luck 45 = .ok (.if_icmp .ge 46, 3) := by decide +kernel
theorem dX7_luck_48 : decode cX7_luck 48 = .ok (.aload_n 0, 1) := by decide +kernel
theorem dX7_luck_49 : decode cX7_luck 49 = .ok (.getfield 19, 3) := by decide +kernel
theorem dX7_luck_52 : decode cX7_luck 52 = .ok (.getfield 78, 3) := by decide +kernel
theorem dX7_luck_55 : decode cX7_luck 55 = .ok (.iload_n 2, 1) := by decide +kernel
theorem dX7_luck_56 : decode cX7_luck 56 = .ok (.invokevirtual 229, 3) := by decide +kernel
theorem dX7_luck_59 : decode cX7_luck 59 = .ok (.ifCond .eq 18, 3) := by decide +kernel
theorem dX7_luck_62 : decode cX7_luck 62 = .ok (.lload 5, 2) := by decide +kernel
theorem dX7_luck_64 : decode cX7_luck 64 = .ok (.iload_n 1, 1) := by decide +kernel
theorem dX7_luck_65 : decode cX7_luck 65 = .ok (.i2l, 1) := by decide +kernel
theorem dX7_luck_66 : decode cX7_luck 66 = .ok (.lmul, 1) := by decide +kernel
theorem dX7_luck_67 : decode cX7_luck 67 = .ok (.lstore 5, 2) := by decide +kernel
theorem dX7_luck_69 : decode cX7_luck 69 = .ok (.lload 7, 2) := by decide +kernel
theorem dX7_luck_71 : decode cX7_luck 71 = .ok (.ldc2_w 232, 3) := by decide +kernel
theorem dX7_luck_74 : decode cX7_luck 74 = .ok (.lmul, 1) := by decide +kernel
theorem dX7_luck_75 : decode cX7_luck 75 = .ok (.lstore 7, 2) := by decide +kernel
theorem dX7_luck_77 : decode cX7_luck 77 = .ok (.aload_n 0, 1) := by decide +kernel
theorem dX7_luck_78 : decode cX7_luck 78 = .ok (.getfield 19, 3) := by decide +kernel
theorem dX7_luck_81 : decode cX7_luck 81 = .ok (.iconst 1, 1) := by decide +kernel
theorem dX7_luck_82 : decode cX7_luck 82 = .ok (.invokevirtual 213, 3) := by decide +kernel
theorem dX7_luck_85 : decode cX7_luck 85 = .ok (.iinc 9 1, 3) := by decide +kernel
theorem dX7_luck_88 : decode cX7_luck 88 = .ok (.goto (-46), 3) := by decide +kernel
theorem dX7_luck_91 : decode cX7_luck 91 = .ok (.lload 5, 2) := by decide +kernel
theorem dX7_luck_93 : decode cX7_luck 93 = .ok (.lload 7, 2) := by decide +kernel
theorem dX7_luck_95 : decode cX7_luck 95 = .ok (.iload 4, 2) := by decide +kernel
theorem dX7_luck_97 : decode cX7_luck 97 = .ok (.invokestatic 234, 3) := by decide +kernel
theorem dX7_luck_100 : decode cX7_luck 100 = .ok (.lreturn, 1) := by decide +kernel
theorem dX7_mean_0 : decode cX7_mean 0 = .ok (.iload_n 1, 1) := by decide +kernel
theorem dX7_mean_1 : decode cX7_mean 1 = .ok (.iload_n 2, 1) := by decide +kernel
theorem dX7_mean_2 : decode cX7_mean 2 = .ok (.iload_n 3, 1) := by decide +kernel
theorem dX7_mean_3 : decode cX7_mean 3 = .ok (.invokestatic 224, 3) := by decide +kernel
theorem dX7_mean_6 : decode cX7_mean 6 = .ok (.ifCond .eq 7, 3) := by decide +kernel
theorem dX7_mean_9 : decode cX7_mean 9 = .ok (.ldc2_w 227, 3) := by decide +kernel
theorem dX7_mean_12 : decode cX7_mean 12 = .ok (.lreturn, 1) := by decide +kernel
theorem dX7_mean_13 : decode cX7_mean 13 = .ok (.lconst 1, 1) := by decide +kernel
theorem dX7_mean_14 : decode cX7_mean 14 = .ok (.lstore 4, 2) := by decide +kernel
theorem dX7_mean_16 : decode cX7_mean 16 = .ok (.iconst 0, 1) := by decide +kernel
theorem dX7_mean_17 : decode cX7_mean 17 = .ok (.istore 6, 2) := by decide +kernel
theorem dX7_mean_19 : decode cX7_mean 19 = .ok (.iload 6, 2) := by decide +kernel
theorem dX7_mean_21 : decode cX7_mean 21 = .ok (.iload_n 2, 1) := by decide +kernel
theorem dX7_mean_22 : decode cX7_mean 22 = .ok (.if_icmp .ge 17, 3) := by decide +kernel
theorem dX7_mean_25 : decode cX7_mean 25 = .ok (.lload 4, 2) := by decide +kernel
theorem dX7_mean_27 : decode cX7_mean 27 = .ok (.ldc2_w 232, 3) := by decide +kernel
theorem dX7_mean_30 : decode cX7_mean 30 = .ok (.lmul, 1) := by decide +kernel
theorem dX7_mean_31 : decode cX7_mean 31 = .ok (.lstore 4, 2) := by decide +kernel
theorem dX7_mean_33 : decode cX7_mean 33 = .ok (.iinc 6 1, 3) := by decide +kernel
theorem dX7_mean_36 : decode cX7_mean 36 = .ok (.goto (-17), 3) := by decide +kernel
theorem dX7_mean_39 : decode cX7_mean 39 = .ok (.lconst 0, 1) := by decide +kernel
theorem dX7_mean_40 : decode cX7_mean 40 = .ok (.lstore 6, 2) := by decide +kernel
theorem dX7_mean_42 : decode cX7_mean 42 = .ok (.iconst 0, 1) := by decide +kernel
theorem dX7_mean_43 : decode cX7_mean 43 = .ok (.istore 8, 2) := by decide +kernel
theorem dX7_mean_45 : decode cX7_mean 45 = .ok (.iload 8, 2) := by decide +kernel
theorem dX7_mean_47 : decode cX7_mean 47 = .ok (.iconst 1, 1) := by decide +kernel
theorem dX7_mean_48 : decode cX7_mean 48 = .ok (.iload_n 2, 1) := by decide +kernel
theorem dX7_mean_49 : decode cX7_mean 49 = .ok (.ishl, 1) := by decide +kernel
theorem dX7_mean_50 : decode cX7_mean 50 = .ok (.if_icmp .ge 41, 3) := by decide +kernel
theorem dX7_mean_53 : decode cX7_mean 53 = .ok (.iload 8, 2) := by decide +kernel
theorem dX7_mean_55 : decode cX7_mean 55 = .ok (.iload_n 1, 1) := by decide +kernel
theorem dX7_mean_56 : decode cX7_mean 56 = .ok (.iload_n 2, 1) := by decide +kernel
theorem dX7_mean_57 : decode cX7_mean 57 = .ok (.invokestatic 238, 3) := by decide +kernel
theorem dX7_mean_60 : decode cX7_mean 60 = .ok (.lstore 9, 2) := by decide +kernel
theorem dX7_mean_62 : decode cX7_mean 62 = .ok (.lload 9, 2) := by decide +kernel
theorem dX7_mean_64 : decode cX7_mean 64 = .ok (.lconst 0, 1) := by decide +kernel
theorem dX7_mean_65 : decode cX7_mean 65 = .ok (.lcmp, 1) := by decide +kernel
theorem dX7_mean_66 : decode cX7_mean 66 = .ok (.ifCond .le 19, 3) := by decide +kernel
theorem dX7_mean_69 : decode cX7_mean 69 = .ok (.lload 6, 2) := by decide +kernel
theorem dX7_mean_71 : decode cX7_mean 71 = .ok (.lload 9, 2) := by decide +kernel
theorem dX7_mean_73 : decode cX7_mean 73 = .ok (.aload_n 0, 1) := by decide +kernel
theorem dX7_mean_74 : decode cX7_mean 74 = .ok (.iload 8, 2) := by decide +kernel
theorem dX7_mean_76 : decode cX7_mean 76 = .ok (.iload_n 2, 1) := by decide +kernel
theorem dX7_mean_77 : decode cX7_mean 77 = .ok (.invokevirtual 242, 3) := by decide +kernel
theorem dX7_mean_80 : decode cX7_mean 80 = .ok (.i2l, 1) := by decide +kernel
theorem dX7_mean_81 : decode cX7_mean 81 = .ok (.lmul, 1) := by decide +kernel
theorem dX7_mean_82 : decode cX7_mean 82 = .ok (.ladd, 1) := by decide +kernel
theorem dX7_mean_83 : decode cX7_mean 83 = .ok (.lstore 6, 2) := by decide +kernel
theorem dX7_mean_85 : decode cX7_mean 85 = .ok (.iinc 8 1, 3) := by decide +kernel
theorem dX7_mean_88 : decode cX7_mean 88 = .ok (.goto (-43), 3) := by decide +kernel
theorem dX7_mean_91 : decode cX7_mean 91 = .ok (.lload 6, 2) := by decide +kernel
theorem dX7_mean_93 : decode cX7_mean 93 = .ok (.lload 4, 2) := by decide +kernel
theorem dX7_mean_95 : decode cX7_mean 95 = .ok (.iload_n 3, 1) := by decide +kernel
theorem dX7_mean_96 : decode cX7_mean 96 = .ok (.invokestatic 234, 3) := by decide +kernel
theorem dX7_mean_99 : decode cX7_mean 99 = .ok (.lreturn, 1) := by decide +kernel
theorem dX7_see_0 : decode cX7_see 0 = .ok (.iload_n 1, 1) := by decide +kernel
theorem dX7_see_1 : decode cX7_see 1 = .ok (.iconst 0, 1) := by decide +kernel
theorem dX7_see_2 : decode cX7_see 2 = .ok (.bipush 20, 2) := by decide +kernel
theorem dX7_see_4 : decode cX7_see 4 = .ok (.invokestatic 64, 3) := by decide +kernel
theorem dX7_see_7 : decode cX7_see 7 = .ok (.ifCond .ne 20, 3) := by decide +kernel
theorem dX7_see_10 : decode cX7_see 10 = .ok (.iload_n 2, 1) := by decide +kernel
theorem dX7_see_11 : decode cX7_see 11 = .ok (.invokestatic 126, 3) := by decide +kernel
theorem dX7_see_14 : decode cX7_see 14 = .ok (.ifCond .ne 13, 3) := by decide +kernel
theorem dX7_see_17 : decode cX7_see 17 = .ok (.iload_n 3, 1) := by decide +kernel
theorem dX7_see_18 : decode cX7_see 18 = .ok (.iconst 0, 1) := by decide +kernel
theorem dX7_see_19 : decode cX7_see 19 = .ok (.bipush 60, 2) := by decide +kernel
theorem dX7_see_21 : decode cX7_see 21 = .ok (.invokestatic 64, 3) := by decide +kernel
theorem dX7_see_24 : decode cX7_see 24 = .ok (.ifCond .eq 5, 3) := by decide +kernel
theorem dX7_see_27 : decode cX7_see 27 = .ok (.iconst (-1), 1) := by decide +kernel
theorem dX7_see_28 : decode cX7_see 28 = .ok (.ireturn, 1) := by decide +kernel
theorem dX7_see_29 : decode cX7_see 29 = .ok (.aload_n 0, 1) := by decide +kernel
theorem dX7_see_30 : decode cX7_see 30 = .ok (.getfield 38, 3) := by decide +kernel
theorem dX7_see_33 : decode cX7_see 33 = .ok (.iload_n 1, 1) := by decide +kernel
theorem dX7_see_34 : decode cX7_see 34 = .ok (.iload_n 2, 1) := by decide +kernel
theorem dX7_see_35 : decode cX7_see 35 = .ok (.iload_n 3, 1) := by decide +kernel
theorem dX7_see_36 : decode cX7_see 36 = .ok (.invokevirtual 246, 3) := by decide +kernel
theorem dX7_see_39 : decode cX7_see 39 = .ok (.ifCond .eq 13, 3) := by decide +kernel
theorem dX7_see_42 : decode cX7_see 42 = .ok (.aload_n 0, 1) := by decide +kernel
theorem dX7_see_43 : decode cX7_see 43 = .ok (.getfield 38, 3) := by decide +kernel
theorem dX7_see_46 : decode cX7_see 46 = .ok (.getfield 98, 3) := by decide +kernel
theorem dX7_see_49 : decode cX7_see 49 = .ok (.goto 5, 3) := by decide +kernel
theorem dX7_see_52 : decode cX7_see 52 = .ok (.bipush (-3), 2) := by decide +kernel
theorem dX7_see_54 : decode cX7_see 54 = .ok (.ireturn, 1) := by decide +kernel
theorem dX7_forget_0 : decode cX7_forget 0 = .ok (.iload_n 1, 1) := by decide +kernel
theorem dX7_forget_1 : decode cX7_forget 1 = .ok (.iconst 0, 1) := by decide +kernel
theorem dX7_forget_2 : decode cX7_forget 2 = .ok (.aload_n 0, 1) := by decide +kernel
theorem dX7_forget_3 : decode cX7_forget 3 = .ok (.getfield 38, 3) := by decide +kernel
theorem dX7_forget_6 : decode cX7_forget 6 = .ok (.getfield 98, 3) := by decide +kernel
theorem dX7_forget_9 : decode cX7_forget 9 = .ok (.invokestatic 64, 3) := by decide +kernel
theorem dX7_forget_12 : decode cX7_forget 12 = .ok (.ifCond .eq 5, 3) := by decide +kernel
theorem dX7_forget_15 : decode cX7_forget 15 = .ok (.iconst (-1), 1) := by decide +kernel
theorem dX7_forget_16 : decode cX7_forget 16 = .ok (.ireturn, 1) := by decide +kernel
theorem dX7_forget_17 : decode cX7_forget 17 = .ok (.aload_n 0, 1) := by decide +kernel
theorem dX7_forget_18 : decode cX7_forget 18 = .ok (.getfield 38, 3) := by decide +kernel
theorem dX7_forget_21 : decode cX7_forget 21 = .ok (.getfield 98, 3) := by decide +kernel
theorem dX7_forget_24 : decode cX7_forget 24 = .ok (.istore_n 2, 1) := by decide +kernel
theorem dX7_forget_25 : decode cX7_forget 25 = .ok (.aload_n 0, 1) := by decide +kernel
theorem dX7_forget_26 : decode cX7_forget 26 = .ok (.getfield 38, 3) := by decide +kernel
theorem dX7_forget_29 : decode cX7_forget 29 = .ok (.iload_n 1, 1) := by decide +kernel
theorem dX7_forget_30 : decode cX7_forget 30 = .ok (.putfield 98, 3) := by decide +kernel
theorem dX7_forget_33 : decode cX7_forget 33 = .ok (.iload_n 2, 1) := by decide +kernel
theorem dX7_forget_34 : decode cX7_forget 34 = .ok (.ireturn, 1) := by decide +kernel
theorem dX7_kinds_0 : decode cX7_kinds 0 = .ok (.aload_n 0, 1) := by decide +kernel
theorem dX7_kinds_1 : decode cX7_kinds 1 = .ok (.iload_n 1, 1) := by decide +kernel
theorem dX7_kinds_2 : decode cX7_kinds 2 = .ok (.invokevirtual 143, 3) := by decide +kernel
theorem dX7_kinds_5 : decode cX7_kinds 5 = .ok (.ifCond .eq 7, 3) := by decide +kernel
theorem dX7_kinds_8 : decode cX7_kinds 8 = .ok (.iconst (-1), 1) := by decide +kernel
theorem dX7_kinds_9 : decode cX7_kinds 9 = .ok (.goto 19, 3) := by decide +kernel
theorem dX7_kinds_12 : decode cX7_kinds 12 = .ok (.aload_n 0, 1) := by decide +kernel
theorem dX7_kinds_13 : decode cX7_kinds 13 = .ok (.iload_n 1, 1) := by decide +kernel
theorem dX7_kinds_14 : decode cX7_kinds 14 = .ok (.aload_n 0, 1) := by decide +kernel
theorem dX7_kinds_15 : decode cX7_kinds 15 = .ok (.getfield 19, 3) := by decide +kernel
theorem dX7_kinds_18 : decode cX7_kinds 18 = .ok (.getfield 78, 3) := by decide +kernel
theorem dX7_kinds_21 : decode cX7_kinds 21 = .ok (.getfield 146, 3) := by decide +kernel
theorem dX7_kinds_24 : decode cX7_kinds 24 = .ok (.iconst 3, 1) := by decide +kernel
theorem dX7_kinds_25 : decode cX7_kinds 25 = .ok (.invokevirtual 249, 3) := by decide +kernel
theorem dX7_kinds_28 : decode cX7_kinds 28 = .ok (.ireturn, 1) := by decide +kernel
theorem dX7_gates_0 : decode cX7_gates 0 = .ok (.aload_n 0, 1) := by decide +kernel
theorem dX7_gates_1 : decode cX7_gates 1 = .ok (.iload_n 1, 1) := by decide +kernel
theorem dX7_gates_2 : decode cX7_gates 2 = .ok (.invokevirtual 143, 3) := by decide +kernel
theorem dX7_gates_5 : decode cX7_gates 5 = .ok (.ifCond .eq 7, 3) := by decide +kernel
theorem dX7_gates_8 : decode cX7_gates 8 = .ok (.iconst (-1), 1) := by decide +kernel
theorem dX7_gates_9 : decode cX7_gates 9 = .ok (.goto 19, 3) := by decide +kernel
theorem dX7_gates_12 : decode cX7_gates 12 = .ok (.aload_n 0, 1) := by decide +kernel
theorem dX7_gates_13 : decode cX7_gates 13 = .ok (.iload_n 1, 1) := by decide +kernel
theorem dX7_gates_14 : decode cX7_gates 14 = .ok (.aload_n 0, 1) := by decide +kernel
theorem dX7_gates_15 : decode cX7_gates 15 = .ok (.getfield 19, 3) := by decide +kernel
theorem dX7_gates_18 : decode cX7_gates 18 = .ok (.getfield 78, 3) := by decide +kernel
theorem dX7_gates_21 : decode cX7_gates 21 = .ok (.getfield 149, 3) := by decide +kernel
theorem dX7_gates_24 : decode cX7_gates 24 = .ok (.iconst 5, 1) := by decide +kernel
theorem dX7_gates_25 : decode cX7_gates 25 = .ok (.invokevirtual 249, 3) := by decide +kernel
theorem dX7_gates_28 : decode cX7_gates 28 = .ok (.ireturn, 1) := by decide +kernel
theorem dX7_ask_0 : decode cX7_ask 0 = .ok (.aload_n 0, 1) := by decide +kernel
theorem dX7_ask_1 : decode cX7_ask 1 = .ok (.iload_n 1, 1) := by decide +kernel
theorem dX7_ask_2 : decode cX7_ask 2 = .ok (.invokevirtual 143, 3) := by decide +kernel
theorem dX7_ask_5 : decode cX7_ask 5 = .ok (.ifCond .ne 12, 3) := by decide +kernel
theorem dX7_ask_8 : decode cX7_ask 8 = .ok (.iload_n 2, 1) := by decide +kernel
theorem dX7_ask_9 : decode cX7_ask 9 = .ok (.iconst 0, 1) := by decide +kernel
theorem dX7_ask_10 : decode cX7_ask 10 = .ok (.iconst 1, 1) := by decide +kernel
theorem dX7_ask_11 : decode cX7_ask 11 = .ok (.invokestatic 64, 3) := by decide +kernel
theorem dX7_ask_14 : decode cX7_ask 14 = .ok (.ifCond .eq 5, 3) := by decide +kernel
theorem dX7_ask_17 : decode cX7_ask 17 = .ok (.iconst (-1), 1) := by decide +kernel
theorem dX7_ask_18 : decode cX7_ask 18 = .ok (.ireturn, 1) := by decide +kernel
theorem dX7_ask_19 : decode cX7_ask 19 = .ok (.aload_n 0, 1) := by decide +kernel
theorem dX7_ask_20 : decode cX7_ask 20 = .ok (.getfield 45, 3) := by decide +kernel
theorem dX7_ask_23 : decode cX7_ask 23 = .ok (.invokevirtual 253, 3) := by decide +kernel
theorem dX7_ask_26 : decode cX7_ask 26 = .ok (.aload_n 0, 1) := by decide +kernel
theorem dX7_ask_27 : decode cX7_ask 27 = .ok (.iload_n 1, 1) := by decide +kernel
theorem dX7_ask_28 : decode cX7_ask 28 = .ok (.aload_n 0, 1) := by decide +kernel
theorem dX7_ask_29 : decode cX7_ask 29 = .ok (.getfield 19, 3) := by decide +kernel
theorem dX7_ask_32 : decode cX7_ask 32 = .ok (.getfield 78, 3) := by decide +kernel
theorem dX7_ask_35 : decode cX7_ask 35 = .ok (.getfield 149, 3) := by decide +kernel
theorem dX7_ask_38 : decode cX7_ask 38 = .ok (.iconst 5, 1) := by decide +kernel
theorem dX7_ask_39 : decode cX7_ask 39 = .ok (.invokevirtual 249, 3) := by decide +kernel
theorem dX7_ask_42 : decode cX7_ask 42 = .ok (.istore_n 3, 1) := by decide +kernel
theorem dX7_ask_43 : decode cX7_ask 43 = .ok (.iconst 0, 1) := by decide +kernel
theorem dX7_ask_44 : decode cX7_ask 44 = .ok (.istore 4, 2) := by decide +kernel
theorem dX7_ask_46 : decode cX7_ask 46 = .ok (.iload 4, 2) := by decide +kernel
theorem dX7_ask_48 : decode cX7_ask 48 = .ok (.bipush 6, 2) := by decide +kernel
theorem dX7_ask_50 : decode cX7_ask 50 = .ok (.if_icmp .ge 55, 3) := by decide +kernel
theorem dX7_ask_53 : decode cX7_ask 53 = .ok (.iload_n 3, 1) := by decide +kernel
theorem dX7_ask_54 : decode cX7_ask 54 = .ok (.iload 4, 2) := by decide +kernel
theorem dX7_ask_56 : decode cX7_ask 56 = .ok (.ishr, 1) := by decide +kernel
theorem dX7_ask_57 : decode cX7_ask 57 = .ok (.iconst 1, 1) := by decide +kernel
theorem dX7_ask_58 : decode cX7_ask 58 = .ok (.iand, 1) := by decide +kernel
theorem dX7_ask_59 : decode cX7_ask 59 = .ok (.iconst 1, 1) := by decide +kernel
theorem dX7_ask_60 : decode cX7_ask 60 = .ok (.if_icmp .ne 39, 3) := by decide +kernel
theorem dX7_ask_63 : decode cX7_ask 63 = .ok (.aload_n 0, 1) := by decide +kernel
theorem dX7_ask_64 : decode cX7_ask 64 = .ok (.getfield 19, 3) := by decide +kernel
theorem dX7_ask_67 : decode cX7_ask 67 = .ok (.aload_n 0, 1) := by decide +kernel
theorem dX7_ask_68 : decode cX7_ask 68 = .ok (.getfield 10, 3) := by decide +kernel
theorem dX7_ask_71 : decode cX7_ask 71 = .ok (.invokevirtual 190, 3) := by decide +kernel
theorem dX7_ask_74 : decode cX7_ask 74 = .ok (.aload_n 0, 1) := by decide +kernel
theorem dX7_ask_75 : decode cX7_ask 75 = .ok (.getfield 19, 3) := by decide +kernel
theorem dX7_ask_78 : decode cX7_ask 78 = .ok (.getfield 78, 3) := by decide +kernel
theorem dX7_ask_81 : decode cX7_ask 81 = .ok (.getfield 149, 3) := by decide +kernel
theorem dX7_ask_84 : decode cX7_ask 84 = .ok (.iload_n 1, 1) := by decide +kernel
theorem dX7_ask_85 : decode cX7_ask 85 = .ok (.iload 4, 2) := by decide +kernel
theorem dX7_ask_87 : decode cX7_ask 87 = .ok (.iastore, 1) := by decide +kernel
theorem dX7_ask_88 : decode cX7_ask 88 = .ok (.aload_n 0, 1) := by decide +kernel
theorem dX7_ask_89 : decode cX7_ask 89 = .ok (.getfield 45, 3) := by decide +kernel
theorem dX7_ask_92 : decode cX7_ask 92 = .ok (.aload_n 0, 1) := by decide +kernel
theorem dX7_ask_93 : decode cX7_ask 93 = .ok (.getfield 19, 3) := by decide +kernel
theorem dX7_ask_96 : decode cX7_ask 96 = .ok (.invokevirtual 256, 3) := by decide +kernel
theorem dX7_ask_99 : decode cX7_ask 99 = .ok (.iinc 4 1, 3) := by decide +kernel
theorem dX7_ask_102 : decode cX7_ask 102 = .ok (.goto (-56), 3) := by decide +kernel
theorem dX7_ask_105 : decode cX7_ask 105 = .ok (.bipush (-4), 2) := by decide +kernel
theorem dX7_ask_107 : decode cX7_ask 107 = .ok (.istore 4, 2) := by decide +kernel
theorem dX7_ask_109 : decode cX7_ask 109 = .ok (.aload_n 0, 1) := by decide +kernel
theorem dX7_ask_110 : decode cX7_ask 110 = .ok (.getfield 45, 3) := by decide +kernel
theorem dX7_ask_113 : decode cX7_ask 113 = .ok (.getfield 259, 3) := by decide +kernel
theorem dX7_ask_116 : decode cX7_ask 116 = .ok (.istore 5, 2) := by decide +kernel
theorem dX7_ask_118 : decode cX7_ask 118 = .ok (.iconst 0, 1) := by decide +kernel
theorem dX7_ask_119 : decode cX7_ask 119 = .ok (.istore 6, 2) := by decide +kernel
theorem dX7_ask_121 : decode cX7_ask 121 = .ok (.iload 6, 2) := by decide +kernel
theorem dX7_ask_123 : decode cX7_ask 123 = .ok (.bipush 20, 2) := by decide +kernel
theorem dX7_ask_125 : decode cX7_ask 125 = .ok (.if_icmp .gt 59, 3) := by decide +kernel
theorem dX7_ask_128 : decode cX7_ask 128 = .ok (.iconst 0, 1) := by decide +kernel
theorem dX7_ask_129 : decode cX7_ask 129 = .ok (.istore 7, 2) := by decide +kernel
theorem dX7_ask_131 : decode cX7_ask 131 = .ok (.iload 7, 2) := by decide +kernel
theorem dX7_ask_133 : decode cX7_ask 133 = .ok (.bipush 6, 2) := by decide +kernel
theorem dX7_ask_135 : decode cX7_ask 135 = .ok (.if_icmp .ge 43, 3) := by decide +kernel
theorem dX7_ask_138 : decode cX7_ask 138 = .ok (.aload_n 0, 1) := by decide +kernel
theorem dX7_ask_139 : decode cX7_ask 139 = .ok (.getfield 45, 3) := by decide +kernel
theorem dX7_ask_142 : decode cX7_ask 142 = .ok (.iload 6, 2) := by decide +kernel
theorem dX7_ask_144 : decode cX7_ask 144 = .ok (.iload 7, 2) := by decide +kernel
theorem dX7_ask_146 : decode cX7_ask 146 = .ok (.invokevirtual 260, 3) := by decide +kernel
theorem dX7_ask_149 : decode cX7_ask 149 = .ok (.istore 8, 2) := by decide +kernel
theorem dX7_ask_151 : decode cX7_ask 151 = .ok (.iload 8, 2) := by decide +kernel
theorem dX7_ask_153 : decode cX7_ask 153 = .ok (.iload 5, 2) := by decide +kernel
theorem dX7_ask_155 : decode cX7_ask 155 = .ok (.if_icmp .ge 17, 3) := by decide +kernel
theorem dX7_ask_158 : decode cX7_ask 158 = .ok (.iload 8, 2) := by decide +kernel
theorem dX7_ask_160 : decode cX7_ask 160 = .ok (.istore 5, 2) := by decide +kernel
theorem dX7_ask_162 : decode cX7_ask 162 = .ok (.bipush 10, 2) := by decide +kernel
theorem dX7_ask_164 : decode cX7_ask 164 = .ok (.iload 6, 2) := by decide +kernel
theorem dX7_ask_166 : decode cX7_ask 166 = .ok (.imul, 1) := by decide +kernel
theorem dX7_ask_167 : decode cX7_ask 167 = .ok (.iload 7, 2) := by decide +kernel
theorem dX7_ask_169 : decode cX7_ask 169 = .ok (.iadd, 1) := by decide +kernel
theorem dX7_ask_170 : decode cX7_ask 170 = .ok (.istore 4, 2) := by decide +kernel
theorem dX7_ask_172 : decode cX7_ask 172 = .ok (.iinc 7 1, 3) := by decide +kernel
theorem dX7_ask_175 : decode cX7_ask 175 = .ok (.goto (-44), 3) := by decide +kernel
theorem dX7_ask_178 : decode cX7_ask 178 = .ok (.iinc 6 1, 3) := by decide +kernel
theorem dX7_ask_181 : decode cX7_ask 181 = .ok (.goto (-60), 3) := by decide +kernel
theorem dX7_ask_184 : decode cX7_ask 184 = .ok (.iload_n 2, 1) := by decide +kernel
theorem dX7_ask_185 : decode cX7_ask 185 = .ok (.ifCond .eq 10, 3) := by decide +kernel
theorem dX7_ask_188 : decode cX7_ask 188 = .ok (.iload 4, 2) := by decide +kernel
theorem dX7_ask_190 : decode cX7_ask 190 = .ok (.bipush (-4), 2) := by decide +kernel
theorem dX7_ask_192 : decode cX7_ask 192 = .ok (.if_icmp .ne 8, 3) := by decide +kernel
theorem dX7_ask_195 : decode cX7_ask 195 = .ok (.iload 4, 2) := by decide +kernel
theorem dX7_ask_197 : decode cX7_ask 197 = .ok (.goto 5, 3) := by decide +kernel
theorem dX7_ask_200 : decode cX7_ask 200 = .ok (.iload 5, 2) := by decide +kernel
theorem dX7_ask_202 : decode cX7_ask 202 = .ok (.ireturn, 1) := by decide +kernel
theorem dX7_drift_0 : decode cX7_drift 0 = .ok (.iload_n 2, 1) := by decide +kernel
theorem dX7_drift_1 : decode cX7_drift 1 = .ok (.iconst 1, 1) := by decide +kernel
theorem dX7_drift_2 : decode cX7_drift 2 = .ok (.bipush 60, 2) := by decide +kernel
theorem dX7_drift_4 : decode cX7_drift 4 = .ok (.invokestatic 64, 3) := by decide +kernel
theorem dX7_drift_7 : decode cX7_drift 7 = .ok (.ifCond .ne 12, 3) := by decide +kernel
theorem dX7_drift_10 : decode cX7_drift 10 = .ok (.iload_n 3, 1) := by decide +kernel
theorem dX7_drift_11 : decode cX7_drift 11 = .ok (.iconst 0, 1) := by decide +kernel
theorem dX7_drift_12 : decode cX7_drift 12 = .ok (.iconst 1, 1) := by decide +kernel
theorem dX7_drift_13 : decode cX7_drift 13 = .ok (.invokestatic 64, 3) := by decide +kernel
theorem dX7_drift_16 : decode cX7_drift 16 = .ok (.ifCond .eq 5, 3) := by decide +kernel
theorem dX7_drift_19 : decode cX7_drift 19 = .ok (.iconst (-1), 1) := by decide +kernel
theorem dX7_drift_20 : decode cX7_drift 20 = .ok (.ireturn, 1) := by decide +kernel
theorem dX7_drift_21 : decode cX7_drift 21 = .ok (.aload_n 0, 1) := by decide +kernel
theorem dX7_drift_22 : decode cX7_drift 22 = .ok (.getfield 10, 3) := by decide +kernel
theorem dX7_drift_25 : decode cX7_drift 25 = .ok (.getfield 101, 3) := by decide +kernel
theorem dX7_drift_28 : decode cX7_drift 28 = .ok (.ifCond .gt 6, 3) := by decide +kernel
theorem dX7_drift_31 : decode cX7_drift 31 = .ok (.bipush (-2), 2) := by decide +kernel
theorem dX7_drift_33 : decode cX7_drift 33 = .ok (.ireturn, 1) := by decide +kernel
theorem dX7_drift_34 : decode cX7_drift 34 = .ok (.aload_n 0, 1) := by decide +kernel
theorem dX7_drift_35 : decode cX7_drift 35 = .ok (.getfield 19, 3) := by decide +kernel
theorem dX7_drift_38 : decode cX7_drift 38 = .ok (.aload_n 0, 1) := by decide +kernel
theorem dX7_drift_39 : decode cX7_drift 39 = .ok (.getfield 10, 3) := by decide +kernel
theorem dX7_drift_42 : decode cX7_drift 42 = .ok (.invokevirtual 190, 3) := by decide +kernel
theorem dX7_drift_45 : decode cX7_drift 45 = .ok (.iload_n 1, 1) := by decide +kernel
theorem dX7_drift_46 : decode cX7_drift 46 = .ok (.istore 4, 2) := by decide +kernel
theorem dX7_drift_48 : decode cX7_drift 48 = .ok (.iconst 0, 1) := by decide +kernel
theorem dX7_drift_49 : decode cX7_drift 49 = .ok (.istore 5, 2) := by decide +kernel
theorem dX7_drift_51 : decode cX7_drift 51 = .ok (.iload 5, 2) := by decide +kernel
theorem dX7_drift_53 : decode cX7_drift 53 = .ok (.iload_n 2, 1) := by decide +kernel
theorem dX7_drift_54 : decode cX7_drift 54 = .ok (.if_icmp .ge 69, 3) := by decide +kernel
theorem dX7_drift_57 : decode cX7_drift 57 = .ok (.iload 4, 2) := by decide +kernel
theorem dX7_drift_59 : decode cX7_drift 59 = .ok (.ldc_w 263, 3) := by decide +kernel
theorem dX7_drift_62 : decode cX7_drift 62 = .ok (.imul, 1) := by decide +kernel
theorem dX7_drift_63 : decode cX7_drift 63 = .ok (.sipush 12345, 3) := by decide +kernel
theorem dX7_drift_66 : decode cX7_drift 66 = .ok (.iadd, 1) := by decide +kernel
theorem dX7_drift_67 : decode cX7_drift 67 = .ok (.istore 4, 2) := by decide +kernel
theorem dX7_drift_69 : decode cX7_drift 69 = .ok (.iload 4, 2) := by decide +kernel
theorem dX7_drift_71 : decode cX7_drift 71 = .ok (.bipush 16, 2) := by decide +kernel
theorem dX7_drift_73 : decode cX7_drift 73 = .ok (.iushr, 1) := by decide +kernel
theorem dX7_drift_74 : decode cX7_drift 74 = .ok (.sipush 32767, 3) := by decide +kernel
theorem dX7_drift_77 : decode cX7_drift 77 = .ok (.iand, 1) := by decide +kernel
theorem dX7_drift_78 : decode cX7_drift 78 = .ok (.istore 6, 2) := by decide +kernel
theorem dX7_drift_80 : decode cX7_drift 80 = .ok (.aload_n 0, 1) := by decide +kernel
theorem dX7_drift_81 : decode cX7_drift 81 = .ok (.getfield 19, 3) := by decide +kernel
theorem dX7_drift_84 : decode cX7_drift 84 = .ok (.getfield 78, 3) := by decide +kernel
theorem dX7_drift_87 : decode cX7_drift 87 = .ok (.getfield 149, 3) := by decide +kernel
theorem dX7_drift_90 : decode cX7_drift 90 = .ok (.iload 6, 2) := by decide +kernel
theorem dX7_drift_92 : decode cX7_drift 92 = .ok (.aload_n 0, 1) := by decide +kernel
theorem dX7_drift_93 : decode cX7_drift 93 = .ok (.getfield 10, 3) := by decide +kernel
theorem dX7_drift_96 : decode cX7_drift 96 = .ok (.getfield 101, 3) := by decide +kernel
theorem dX7_drift_99 : decode cX7_drift 99 = .ok (.irem, 1) := by decide +kernel
theorem dX7_drift_100 : decode cX7_drift 100 = .ok (.iload 6, 2) := by decide +kernel
theorem dX7_drift_102 : decode cX7_drift 102 = .ok (.bipush 8, 2) := by decide +kernel
theorem dX7_drift_104 : decode cX7_drift 104 = .ok (.idiv, 1) := by decide +kernel
theorem dX7_drift_105 : decode cX7_drift 105 = .ok (.bipush 6, 2) := by decide +kernel
theorem dX7_drift_107 : decode cX7_drift 107 = .ok (.irem, 1) := by decide +kernel
theorem dX7_drift_108 : decode cX7_drift 108 = .ok (.iastore, 1) := by decide +kernel
theorem dX7_drift_109 : decode cX7_drift 109 = .ok (.aload_n 0, 1) := by decide +kernel
theorem dX7_drift_110 : decode cX7_drift 110 = .ok (.getfield 19, 3) := by decide +kernel
theorem dX7_drift_113 : decode cX7_drift 113 = .ok (.iconst 0, 1) := by decide +kernel
theorem dX7_drift_114 : decode cX7_drift 114 = .ok (.invokevirtual 213, 3) := by decide +kernel
theorem dX7_drift_117 : decode cX7_drift 117 = .ok (.iinc 5 1, 3) := by decide +kernel
theorem dX7_drift_120 : decode cX7_drift 120 = .ok (.goto (-69), 3) := by decide +kernel
theorem dX7_drift_123 : decode cX7_drift 123 = .ok (.iload_n 3, 1) := by decide +kernel
theorem dX7_drift_124 : decode cX7_drift 124 = .ok (.ifCond .ne 13, 3) := by decide +kernel
theorem dX7_drift_127 : decode cX7_drift 127 = .ok (.aload_n 0, 1) := by decide +kernel
theorem dX7_drift_128 : decode cX7_drift 128 = .ok (.getfield 19, 3) := by decide +kernel
theorem dX7_drift_131 : decode cX7_drift 131 = .ok (.getfield 197, 3) := by decide +kernel
theorem dX7_drift_134 : decode cX7_drift 134 = .ok (.goto 10, 3) := by decide +kernel
theorem dX7_drift_137 : decode cX7_drift 137 = .ok (.aload_n 0, 1) := by decide +kernel
theorem dX7_drift_138 : decode cX7_drift 138 = .ok (.getfield 19, 3) := by decide +kernel
theorem dX7_drift_141 : decode cX7_drift 141 = .ok (.getfield 203, 3) := by decide +kernel
theorem dX7_drift_144 : decode cX7_drift 144 = .ok (.ireturn, 1) := by decide +kernel
theorem dX7_keep_0 : decode cX7_keep 0 = .ok (.iload_n 1, 1) := by decide +kernel
theorem dX7_keep_1 : decode cX7_keep 1 = .ok (.iconst 0, 1) := by decide +kernel
theorem dX7_keep_2 : decode cX7_keep 2 = .ok (.iconst 1, 1) := by decide +kernel
theorem dX7_keep_3 : decode cX7_keep 3 = .ok (.invokestatic 64, 3) := by decide +kernel
theorem dX7_keep_6 : decode cX7_keep 6 = .ok (.ifCond .eq 5, 3) := by decide +kernel
theorem dX7_keep_9 : decode cX7_keep 9 = .ok (.iconst (-1), 1) := by decide +kernel
theorem dX7_keep_10 : decode cX7_keep 10 = .ok (.ireturn, 1) := by decide +kernel
theorem dX7_keep_11 : decode cX7_keep 11 = .ok (.aload_n 0, 1) := by decide +kernel
theorem dX7_keep_12 : decode cX7_keep 12 = .ok (.getfield 53, 3) := by decide +kernel
theorem dX7_keep_15 : decode cX7_keep 15 = .ok (.iload_n 1, 1) := by decide +kernel
theorem dX7_keep_16 : decode cX7_keep 16 = .ok (.baload, 1) := by decide +kernel
theorem dX7_keep_17 : decode cX7_keep 17 = .ok (.ifCond .eq 7, 3) := by decide +kernel
theorem dX7_keep_20 : decode cX7_keep 20 = .ok (.iconst 1, 1) := by decide +kernel
theorem dX7_keep_21 : decode cX7_keep 21 = .ok (.goto 4, 3) := by decide +kernel
theorem dX7_keep_24 : decode cX7_keep 24 = .ok (.iconst 0, 1) := by decide +kernel
theorem dX7_keep_25 : decode cX7_keep 25 = .ok (.istore_n 2, 1) := by decide +kernel
theorem dX7_keep_26 : decode cX7_keep 26 = .ok (.aload_n 0, 1) := by decide +kernel
theorem dX7_keep_27 : decode cX7_keep 27 = .ok (.getfield 49, 3) := by decide +kernel
theorem dX7_keep_30 : decode cX7_keep 30 = .ok (.iload_n 1, 1) := by decide +kernel
theorem dX7_keep_31 : decode cX7_keep 31 = .ok (.aaload, 1) := by decide +kernel
theorem dX7_keep_32 : decode cX7_keep 32 = .ok (.aload_n 0, 1) := by decide +kernel
theorem dX7_keep_33 : decode cX7_keep 33 = .ok (.getfield 10, 3) := by decide +kernel
theorem dX7_keep_36 : decode cX7_keep 36 = .ok (.invokevirtual 94, 3) := by decide +kernel
theorem dX7_keep_39 : decode cX7_keep 39 = .ok (.aload_n 0, 1) := by decide +kernel
theorem dX7_keep_40 : decode cX7_keep 40 = .ok (.getfield 53, 3) := by decide +kernel
theorem dX7_keep_43 : decode cX7_keep 43 = .ok (.iload_n 1, 1) := by decide +kernel
theorem dX7_keep_44 : decode cX7_keep 44 = .ok (.iconst 1, 1) := by decide +kernel
theorem dX7_keep_45 : decode cX7_keep 45 = .ok (.bastore, 1) := by decide +kernel
theorem dX7_keep_46 : decode cX7_keep 46 = .ok (.iload_n 2, 1) := by decide +kernel
theorem dX7_keep_47 : decode cX7_keep 47 = .ok (.ireturn, 1) := by decide +kernel
theorem dX7_back_0 : decode cX7_back 0 = .ok (.iload_n 1, 1) := by decide +kernel
theorem dX7_back_1 : decode cX7_back 1 = .ok (.iconst 0, 1) := by decide +kernel
theorem dX7_back_2 : decode cX7_back 2 = .ok (.iconst 1, 1) := by decide +kernel
theorem dX7_back_3 : decode cX7_back 3 = .ok (.invokestatic 64, 3) := by decide +kernel
theorem dX7_back_6 : decode cX7_back 6 = .ok (.ifCond .eq 5, 3) := by decide +kernel
theorem dX7_back_9 : decode cX7_back 9 = .ok (.iconst (-1), 1) := by decide +kernel
theorem dX7_back_10 : decode cX7_back 10 = .ok (.ireturn, 1) := by decide +kernel
theorem dX7_back_11 : decode cX7_back 11 = .ok (.aload_n 0, 1) := by decide +kernel
theorem dX7_back_12 : decode cX7_back 12 = .ok (.getfield 53, 3) := by decide +kernel
theorem dX7_back_15 : decode cX7_back 15 = .ok (.iload_n 1, 1) := by decide +kernel
theorem dX7_back_16 : decode cX7_back 16 = .ok (.baload, 1) := by decide +kernel
theorem dX7_back_17 : decode cX7_back 17 = .ok (.ifCond .ne 6, 3) := by decide +kernel
theorem dX7_back_20 : decode cX7_back 20 = .ok (.bipush (-2), 2) := by decide +kernel
theorem dX7_back_22 : decode cX7_back 22 = .ok (.ireturn, 1) := by decide +kernel
theorem dX7_back_23 : decode cX7_back 23 = .ok (.aload_n 0, 1) := by decide +kernel
theorem dX7_back_24 : decode cX7_back 24 = .ok (.getfield 10, 3) := by decide +kernel
theorem dX7_back_27 : decode cX7_back 27 = .ok (.aload_n 0, 1) := by decide +kernel
theorem dX7_back_28 : decode cX7_back 28 = .ok (.getfield 49, 3) := by decide +kernel
theorem dX7_back_31 : decode cX7_back 31 = .ok (.iload_n 1, 1) := by decide +kernel
theorem dX7_back_32 : decode cX7_back 32 = .ok (.aaload, 1) := by decide +kernel
theorem dX7_back_33 : decode cX7_back 33 = .ok (.invokevirtual 94, 3) := by decide +kernel
theorem dX7_back_36 : decode cX7_back 36 = .ok (.aload_n 0, 1) := by decide +kernel
theorem dX7_back_37 : decode cX7_back 37 = .ok (.getfield 10, 3) := by decide +kernel
theorem dX7_back_40 : decode cX7_back 40 = .ok (.getfield 107, 3) := by decide +kernel
theorem dX7_back_43 : decode cX7_back 43 = .ok (.ireturn, 1) := by decide +kernel
theorem dX7_sheet_0 : decode cX7_sheet 0 = .ok (.iload_n 1, 1) := by decide +kernel
theorem dX7_sheet_1 : decode cX7_sheet 1 = .ok (.invokestatic 264, 3) := by decide +kernel
theorem dX7_sheet_4 : decode cX7_sheet 4 = .ok (.ifCond .ne 18, 3) := by decide +kernel
theorem dX7_sheet_7 : decode cX7_sheet 7 = .ok (.iload_n 2, 1) := by decide +kernel
theorem dX7_sheet_8 : decode cX7_sheet 8 = .ok (.iconst 0, 1) := by decide +kernel
theorem dX7_sheet_9 : decode cX7_sheet 9 = .ok (.iconst 2, 1) := by decide +kernel
theorem dX7_sheet_10 : decode cX7_sheet 10 = .ok (.invokestatic 64, 3) := by decide +kernel
theorem dX7_sheet_13 : decode cX7_sheet 13 = .ok (.ifCond .ne 9, 3) := by decide +kernel
theorem dX7_sheet_16 : decode cX7_sheet 16 = .ok (.iload_n 3, 1) := by decide +kernel
theorem dX7_sheet_17 : decode cX7_sheet 17 = .ok (.bipush 40, 2) := by decide +kernel
theorem dX7_sheet_19 : decode cX7_sheet 19 = .ok (.if_icmp .le 5, 3) := by decide +kernel
theorem dX7_sheet_22 : decode cX7_sheet 22 = .ok (.iconst (-1), 1) := by decide +kernel
theorem dX7_sheet_23 : decode cX7_sheet 23 = .ok (.ireturn, 1) := by decide +kernel
theorem dX7_sheet_24 : decode cX7_sheet 24 = .ok (.iload_n 3, 1) := by decide +kernel
theorem dX7_sheet_25 : decode cX7_sheet 25 = .ok (.ifCond .ge 6, 3) := by decide +kernel
theorem dX7_sheet_28 : decode cX7_sheet 28 = .ok (.bipush (-14), 2) := by decide +kernel
theorem dX7_sheet_30 : decode cX7_sheet 30 = .ok (.ireturn, 1) := by decide +kernel
theorem dX7_sheet_31 : decode cX7_sheet 31 = .ok (.aload_n 0, 1) := by decide +kernel
theorem dX7_sheet_32 : decode cX7_sheet 32 = .ok (.getfield 59, 3) := by decide +kernel
theorem dX7_sheet_35 : decode cX7_sheet 35 = .ok (.iload_n 1, 1) := by decide +kernel
theorem dX7_sheet_36 : decode cX7_sheet 36 = .ok (.aaload, 1) := by decide +kernel
theorem dX7_sheet_37 : decode cX7_sheet 37 = .ok (.iload_n 2, 1) := by decide +kernel
theorem dX7_sheet_38 : decode cX7_sheet 38 = .ok (.iload_n 3, 1) := by decide +kernel
theorem dX7_sheet_39 : decode cX7_sheet 39 = .ok (.invokevirtual 267, 3) := by decide +kernel
theorem dX7_sheet_42 : decode cX7_sheet 42 = .ok (.iconst 1, 1) := by decide +kernel
theorem dX7_sheet_43 : decode cX7_sheet 43 = .ok (.ireturn, 1) := by decide +kernel
theorem dX7_lay_0 : decode cX7_lay 0 = .ok (.iload_n 1, 1) := by decide +kernel
theorem dX7_lay_1 : decode cX7_lay 1 = .ok (.invokestatic 264, 3) := by decide +kernel
theorem dX7_lay_4 : decode cX7_lay 4 = .ok (.ifCond .eq 5, 3) := by decide +kernel
theorem dX7_lay_7 : decode cX7_lay 7 = .ok (.iconst (-1), 1) := by decide +kernel
theorem dX7_lay_8 : decode cX7_lay 8 = .ok (.ireturn, 1) := by decide +kernel
theorem dX7_lay_9 : decode cX7_lay 9 = .ok (.aload_n 0, 1) := by decide +kernel
theorem dX7_lay_10 : decode cX7_lay 10 = .ok (.getfield 59, 3) := by decide +kernel
theorem dX7_lay_13 : decode cX7_lay 13 = .ok (.iload_n 1, 1) := by decide +kernel
theorem dX7_lay_14 : decode cX7_lay 14 = .ok (.aaload, 1) := by decide +kernel
theorem dX7_lay_15 : decode cX7_lay 15 = .ok (.invokevirtual 271, 3) := by decide +kernel
theorem dX7_lay_18 : decode cX7_lay 18 = .ok (.ifCond .eq 6, 3) := by decide +kernel
theorem dX7_lay_21 : decode cX7_lay 21 = .ok (.bipush (-11), 2) := by decide +kernel
theorem dX7_lay_23 : decode cX7_lay 23 = .ok (.ireturn, 1) := by decide +kernel
theorem dX7_lay_24 : decode cX7_lay 24 = .ok (.aload_n 0, 1) := by decide +kernel
theorem dX7_lay_25 : decode cX7_lay 25 = .ok (.getfield 59, 3) := by decide +kernel
theorem dX7_lay_28 : decode cX7_lay 28 = .ok (.iload_n 1, 1) := by decide +kernel
theorem dX7_lay_29 : decode cX7_lay 29 = .ok (.aaload, 1) := by decide +kernel
theorem dX7_lay_30 : decode cX7_lay 30 = .ok (.iload_n 2, 1) := by decide +kernel
theorem dX7_lay_31 : decode cX7_lay 31 = .ok (.iload_n 3, 1) := by decide +kernel
theorem dX7_lay_32 : decode cX7_lay 32 = .ok (.invokevirtual 275, 3) := by decide +kernel
theorem dX7_lay_35 : decode cX7_lay 35 = .ok (.ifCond .eq 7, 3) := by decide +kernel
theorem dX7_lay_38 : decode cX7_lay 38 = .ok (.iconst 1, 1) := by decide +kernel
theorem dX7_lay_39 : decode cX7_lay 39 = .ok (.goto 5, 3) := by decide +kernel
theorem dX7_lay_42 : decode cX7_lay 42 = .ok (.bipush (-12), 2) := by decide +kernel
theorem dX7_lay_44 : decode cX7_lay 44 = .ok (.ireturn, 1) := by decide +kernel
theorem dX7_read_0 : decode cX7_read 0 = .ok (.iload_n 1, 1) := by decide +kernel
theorem dX7_read_1 : decode cX7_read 1 = .ok (.invokestatic 264, 3) := by decide +kernel
theorem dX7_read_4 : decode cX7_read 4 = .ok (.ifCond .ne 23, 3) := by decide +kernel
theorem dX7_read_7 : decode cX7_read 7 = .ok (.iload_n 2, 1) := by decide +kernel
theorem dX7_read_8 : decode cX7_read 8 = .ok (.iconst 0, 1) := by decide +kernel
theorem dX7_read_9 : decode cX7_read 9 = .ok (.iconst 2, 1) := by decide +kernel
theorem dX7_read_10 : decode cX7_read 10 = .ok (.invokestatic 64, 3) := by decide +kernel
theorem dX7_read_13 : decode cX7_read 13 = .ok (.ifCond .ne 14, 3) := by decide +kernel
theorem dX7_read_16 : decode cX7_read 16 = .ok (.iload 4, 2) := by decide +kernel
theorem dX7_read_18 : decode cX7_read 18 = .ok (.iconst 0, 1) := by decide +kernel
theorem dX7_read_19 : decode cX7_read 19 = .ok (.bipush 20, 2) := by decide +kernel
theorem dX7_read_21 : decode cX7_read 21 = .ok (.invokestatic 64, 3) := by decide +kernel
theorem dX7_read_24 : decode cX7_read 24 = .ok (.ifCond .eq 5, 3) := by decide +kernel
theorem dX7_read_27 : decode cX7_read 27 = .ok (.iconst (-1), 1) := by decide +kernel
theorem dX7_read_28 : decode cX7_read 28 = .ok (.ireturn, 1) := by decide +kernel
theorem dX7_read_29 : decode cX7_read 29 = .ok (.aload_n 0, 1) := by decide +kernel
theorem dX7_read_30 : decode cX7_read 30 = .ok (.getfield 59, 3) := by decide +kernel
theorem dX7_read_33 : decode cX7_read 33 = .ok (.iload_n 1, 1) := by decide +kernel
theorem dX7_read_34 : decode cX7_read 34 = .ok (.aaload, 1) := by decide +kernel
theorem dX7_read_35 : decode cX7_read 35 = .ok (.astore 5, 2) := by decide +kernel
theorem dX7_read_37 : decode cX7_read 37 = .ok (.iload 4, 2) := by decide +kernel
theorem dX7_read_39 : decode cX7_read 39 = .ok (.ifCond .ne 7, 3) := by decide +kernel
theorem dX7_read_42 : decode cX7_read 42 = .ok (.iconst 0, 1) := by decide +kernel
theorem dX7_read_43 : decode cX7_read 43 = .ok (.goto 9, 3) := by decide +kernel
theorem dX7_read_46 : decode cX7_read 46 = .ok (.aload 5, 2) := by decide +kernel
theorem dX7_read_48 : decode cX7_read 48 = .ok (.iload_n 2, 1) := by decide +kernel
theorem dX7_read_49 : decode cX7_read 49 = .ok (.invokevirtual 278, 3) := by decide +kernel
theorem dX7_read_52 : decode cX7_read 52 = .ok (.istore 6, 2) := by decide +kernel
theorem dX7_read_54 : decode cX7_read 54 = .ok (.iconst 0, 1) := by decide +kernel
theorem dX7_read_55 : decode cX7_read 55 = .ok (.istore 7, 2) := by decide +kernel
theorem dX7_read_57 : decode cX7_read 57 = .ok (.aload_n 0, 1) := by decide +kernel
theorem dX7_read_58 : decode cX7_read 58 = .ok (.getfield 19, 3) := by decide +kernel
theorem dX7_read_61 : decode cX7_read 61 = .ok (.aload_n 0, 1) := by decide +kernel
theorem dX7_read_62 : decode cX7_read 62 = .ok (.getfield 10, 3) := by decide +kernel
theorem dX7_read_65 : decode cX7_read 65 = .ok (.invokevirtual 190, 3) := by decide +kernel
theorem dX7_read_68 : decode cX7_read 68 = .ok (.iconst 0, 1) := by decide +kernel
theorem dX7_read_69 : decode cX7_read 69 = .ok (.istore 8, 2) := by decide +kernel
theorem dX7_read_71 : decode cX7_read 71 = .ok (.iload 8, 2) := by decide +kernel
theorem dX7_read_73 : decode cX7_read 73 = .ok (.iload 4, 2) := by decide +kernel
theorem dX7_read_75 : decode cX7_read 75 = .ok (.if_icmp .ge 87, 3) := by decide +kernel
theorem dX7_read_78 : decode cX7_read 78 = .ok (.iload 6, 2) := by decide +kernel
theorem dX7_read_80 : decode cX7_read 80 = .ok (.ifCond .ne 82, 3) := by decide +kernel
theorem dX7_read_83 : decode cX7_read 83 = .ok (.iload_n 3, 1) := by decide +kernel
theorem dX7_read_84 : decode cX7_read 84 = .ok (.iconst 2, 1) := by decide +kernel
theorem dX7_read_85 : decode cX7_read 85 = .ok (.iload 8, 2) := by decide +kernel
theorem dX7_read_87 : decode cX7_read 87 = .ok (.imul, 1) := by decide +kernel
theorem dX7_read_88 : decode cX7_read 88 = .ok (.iadd, 1) := by decide +kernel
theorem dX7_read_89 : decode cX7_read 89 = .ok (.istore 9, 2) := by decide +kernel
theorem dX7_read_91 : decode cX7_read 91 = .ok (.aload 5, 2) := by decide +kernel
theorem dX7_read_93 : decode cX7_read 93 = .ok (.iload 9, 2) := by decide +kernel
theorem dX7_read_95 : decode cX7_read 95 = .ok (.invokevirtual 281, 3) := by decide +kernel
theorem dX7_read_98 : decode cX7_read 98 = .ok (.ifCond .ne 15, 3) := by decide +kernel
theorem dX7_read_101 : decode cX7_read 101 = .ok (.aload 5, 2) := by decide +kernel
theorem dX7_read_103 : decode cX7_read 103 = .ok (.iload 9, 2) := by decide +kernel
theorem dX7_read_105 : decode cX7_read 105 = .ok (.iconst 1, 1) := by decide +kernel
theorem dX7_read_106 : decode cX7_read 106 = .ok (.iadd, 1) := by decide +kernel
theorem dX7_read_107 : decode cX7_read 107 = .ok (.invokevirtual 281, 3) := by decide +kernel
theorem dX7_read_110 : decode cX7_read 110 = .ok (.ifCond .eq 9, 3) := by decide +kernel
theorem dX7_read_113 : decode cX7_read 113 = .ok (.iconst 2, 1) := by decide +kernel
theorem dX7_read_114 : decode cX7_read 114 = .ok (.istore 6, 2) := by decide +kernel
theorem dX7_read_116 : decode cX7_read 116 = .ok (.goto 40, 3) := by decide +kernel
theorem dX7_read_119 : decode cX7_read 119 = .ok (.aload_n 0, 1) := by decide +kernel
theorem dX7_read_120 : decode cX7_read 120 = .ok (.aload 5, 2) := by decide +kernel
theorem dX7_read_122 : decode cX7_read 122 = .ok (.getfield 284, 3) := by decide +kernel
theorem dX7_read_125 : decode cX7_read 125 = .ok (.iload 9, 2) := by decide +kernel
theorem dX7_read_127 : decode cX7_read 127 = .ok (.iaload, 1) := by decide +kernel
theorem dX7_read_128 : decode cX7_read 128 = .ok (.aload 5, 2) := by decide +kernel
theorem dX7_read_130 : decode cX7_read 130 = .ok (.getfield 284, 3) := by decide +kernel
theorem dX7_read_133 : decode cX7_read 133 = .ok (.iload 9, 2) := by decide +kernel
theorem dX7_read_135 : decode cX7_read 135 = .ok (.iconst 1, 1) := by decide +kernel
theorem dX7_read_136 : decode cX7_read 136 = .ok (.iadd, 1) := by decide +kernel
theorem dX7_read_137 : decode cX7_read 137 = .ok (.iaload, 1) := by decide +kernel
theorem dX7_read_138 : decode cX7_read 138 = .ok (.invokevirtual 287, 3) := by decide +kernel
theorem dX7_read_141 : decode cX7_read 141 = .ok (.ifCond .eq 9, 3) := by decide +kernel
theorem dX7_read_144 : decode cX7_read 144 = .ok (.iinc 7 1, 3) := by decide +kernel
theorem dX7_read_147 : decode cX7_read 147 = .ok (.goto 9, 3) := by decide +kernel
theorem dX7_read_150 : decode cX7_read 150 = .ok (.bipush (-20), 2) := by decide +kernel
theorem dX7_read_152 : decode cX7_read 152 = .ok (.iload 8, 2) := by decide +kernel
theorem dX7_read_154 : decode cX7_read 154 = .ok (.isub, 1) := by decide +kernel
theorem dX7_read_155 : decode cX7_read 155 = .ok (.ireturn, 1) := by decide +kernel
theorem dX7_read_156 : decode cX7_read 156 = .ok (.iinc 8 1, 3) := by decide +kernel
theorem dX7_read_159 : decode cX7_read 159 = .ok (.goto (-88), 3) := by decide +kernel
theorem dX7_read_162 : decode cX7_read 162 = .ok (.aload_n 0, 1) := by decide +kernel
theorem dX7_read_163 : decode cX7_read 163 = .ok (.getfield 10, 3) := by decide +kernel
theorem dX7_read_166 : decode cX7_read 166 = .ok (.aload_n 0, 1) := by decide +kernel
theorem dX7_read_167 : decode cX7_read 167 = .ok (.getfield 19, 3) := by decide +kernel
theorem dX7_read_170 : decode cX7_read 170 = .ok (.getfield 78, 3) := by decide +kernel
theorem dX7_read_173 : decode cX7_read 173 = .ok (.invokevirtual 94, 3) := by decide +kernel
theorem dX7_read_176 : decode cX7_read 176 = .ok (.aload_n 0, 1) := by decide +kernel
theorem dX7_read_177 : decode cX7_read 177 = .ok (.iload 6, 2) := by decide +kernel
theorem dX7_read_179 : decode cX7_read 179 = .ok (.putfield 290, 3) := by decide +kernel
theorem dX7_read_182 : decode cX7_read 182 = .ok (.iload 7, 2) := by decide +kernel
theorem dX7_read_184 : decode cX7_read 184 = .ok (.ireturn, 1) := by decide +kernel
theorem dX7_torn_0 : decode cX7_torn 0 = .ok (.aload_n 0, 1) := by decide +kernel
theorem dX7_torn_1 : decode cX7_torn 1 = .ok (.getfield 290, 3) := by decide +kernel
theorem dX7_torn_4 : decode cX7_torn 4 = .ok (.ireturn, 1) := by decide +kernel
theorem dX7_count_0 : decode cX7_count 0 = .ok (.iload_n 1, 1) := by decide +kernel
theorem dX7_count_1 : decode cX7_count 1 = .ok (.tableswitch 128 0 5 #[39, 47, 77, 85, 112, 120], 39) := by decide +kernel
theorem dX7_count_40 : decode cX7_count 40 = .ok (.aload_n 0, 1) := by decide +kernel
theorem dX7_count_41 : decode cX7_count 41 = .ok (.getfield 38, 3) := by decide +kernel
theorem dX7_count_44 : decode cX7_count 44 = .ok (.getfield 98, 3) := by decide +kernel
theorem dX7_count_47 : decode cX7_count 47 = .ok (.ireturn, 1) := by decide +kernel
theorem dX7_count_48 : decode cX7_count 48 = .ok (.aload_n 0, 1) := by decide +kernel
theorem dX7_count_49 : decode cX7_count 49 = .ok (.getfield 53, 3) := by decide +kernel
theorem dX7_count_52 : decode cX7_count 52 = .ok (.iconst 0, 1) := by decide +kernel
theorem dX7_count_53 : decode cX7_count 53 = .ok (.baload, 1) := by decide +kernel
theorem dX7_count_54 : decode cX7_count 54 = .ok (.ifCond .eq 7, 3) := by decide +kernel
theorem dX7_count_57 : decode cX7_count 57 = .ok (.iconst 1, 1) := by decide +kernel
theorem dX7_count_58 : decode cX7_count 58 = .ok (.goto 4, 3) := by decide +kernel
theorem dX7_count_61 : decode cX7_count 61 = .ok (.iconst 0, 1) := by decide +kernel
theorem dX7_count_62 : decode cX7_count 62 = .ok (.aload_n 0, 1) := by decide +kernel
theorem dX7_count_63 : decode cX7_count 63 = .ok (.getfield 53, 3) := by decide +kernel
theorem dX7_count_66 : decode cX7_count 66 = .ok (.iconst 1, 1) := by decide +kernel
theorem dX7_count_67 : decode cX7_count 67 = .ok (.baload, 1) := by decide +kernel
theorem dX7_count_68 : decode cX7_count 68 = .ok (.ifCond .eq 7, 3) := by decide +kernel
theorem dX7_count_71 : decode cX7_count 71 = .ok (.iconst 1, 1) := by decide +kernel
theorem dX7_count_72 : decode cX7_count 72 = .ok (.goto 4, 3) := by decide +kernel
theorem dX7_count_75 : decode cX7_count 75 = .ok (.iconst 0, 1) := by decide +kernel
theorem dX7_count_76 : decode cX7_count 76 = .ok (.iadd, 1) := by decide +kernel
theorem dX7_count_77 : decode cX7_count 77 = .ok (.ireturn, 1) := by decide +kernel
theorem dX7_count_78 : decode cX7_count 78 = .ok (.aload_n 0, 1) := by decide +kernel
theorem dX7_count_79 : decode cX7_count 79 = .ok (.getfield 34, 3) := by decide +kernel
theorem dX7_count_82 : decode cX7_count 82 = .ok (.getfield 74, 3) := by decide +kernel
theorem dX7_count_85 : decode cX7_count 85 = .ok (.ireturn, 1) := by decide +kernel
theorem dX7_count_86 : decode cX7_count 86 = .ok (.aload_n 0, 1) := by decide +kernel
theorem dX7_count_87 : decode cX7_count 87 = .ok (.getfield 59, 3) := by decide +kernel
theorem dX7_count_90 : decode cX7_count 90 = .ok (.iconst 0, 1) := by decide +kernel
theorem dX7_count_91 : decode cX7_count 91 = .ok (.aaload, 1) := by decide +kernel
theorem dX7_count_92 : decode cX7_count 92 = .ok (.invokevirtual 271, 3) := by decide +kernel
theorem dX7_count_95 : decode cX7_count 95 = .ok (.ifCond .eq 8, 3) := by decide +kernel
theorem dX7_count_98 : decode cX7_count 98 = .ok (.bipush (-4), 2) := by decide +kernel
theorem dX7_count_100 : decode cX7_count 100 = .ok (.goto 12, 3) := by decide +kernel
theorem dX7_count_103 : decode cX7_count 103 = .ok (.aload_n 0, 1) := by decide +kernel
theorem dX7_count_104 : decode cX7_count 104 = .ok (.getfield 59, 3) := by decide +kernel
theorem dX7_count_107 : decode cX7_count 107 = .ok (.iconst 0, 1) := by decide +kernel
theorem dX7_count_108 : decode cX7_count 108 = .ok (.aaload, 1) := by decide +kernel
theorem dX7_count_109 : decode cX7_count 109 = .ok (.getfield 293, 3) := by decide +kernel
theorem dX7_count_112 : decode cX7_count 112 = .ok (.ireturn, 1) := by decide +kernel
theorem dX7_count_113 : decode cX7_count 113 = .ok (.aload_n 0, 1) := by decide +kernel
theorem dX7_count_114 : decode cX7_count 114 = .ok (.getfield 10, 3) := by decide +kernel
theorem dX7_count_117 : decode cX7_count 117 = .ok (.invokevirtual 296, 3) := by decide +kernel
theorem dX7_count_120 : decode cX7_count 120 = .ok (.ireturn, 1) := by decide +kernel
theorem dX7_count_121 : decode cX7_count 121 = .ok (.aload_n 0, 1) := by decide +kernel
theorem dX7_count_122 : decode cX7_count 122 = .ok (.getfield 10, 3) := by decide +kernel
theorem dX7_count_125 : decode cX7_count 125 = .ok (.invokevirtual 299, 3) := by decide +kernel
theorem dX7_count_128 : decode cX7_count 128 = .ok (.ireturn, 1) := by decide +kernel
theorem dX7_count_129 : decode cX7_count 129 = .ok (.iconst (-1), 1) := by decide +kernel
theorem dX7_count_130 : decode cX7_count 130 = .ok (.ireturn, 1) := by decide +kernel
theorem dX7_isOutside_0 : decode cX7_isOutside 0 = .ok (.iload_n 0, 1) := by decide +kernel
theorem dX7_isOutside_1 : decode cX7_isOutside 1 = .ok (.iload_n 1, 1) := by decide +kernel
theorem dX7_isOutside_2 : decode cX7_isOutside 2 = .ok (.if_icmp .lt 8, 3) := by decide +kernel
theorem dX7_isOutside_5 : decode cX7_isOutside 5 = .ok (.iload_n 0, 1) := by decide +kernel
theorem dX7_isOutside_6 : decode cX7_isOutside 6 = .ok (.iload_n 2, 1) := by decide +kernel
theorem dX7_isOutside_7 : decode cX7_isOutside 7 = .ok (.if_icmp .le 7, 3) := by decide +kernel
theorem dX7_isOutside_10 : decode cX7_isOutside 10 = .ok (.iconst 1, 1) := by decide +kernel
theorem dX7_isOutside_11 : decode cX7_isOutside 11 = .ok (.goto 4, 3) := by decide +kernel
theorem dX7_isOutside_14 : decode cX7_isOutside 14 = .ok (.iconst 0, 1) := by decide +kernel
theorem dX7_isOutside_15 : decode cX7_isOutside 15 = .ok (.ireturn, 1) := by decide +kernel
theorem dX7_isNoGate_0 : decode cX7_isNoGate 0 = .ok (.iload_n 0, 1) := by decide +kernel
theorem dX7_isNoGate_1 : decode cX7_isNoGate 1 = .ok (.iconst 0, 1) := by decide +kernel
theorem dX7_isNoGate_2 : decode cX7_isNoGate 2 = .ok (.iconst 5, 1) := by decide +kernel
theorem dX7_isNoGate_3 : decode cX7_isNoGate 3 = .ok (.invokestatic 64, 3) := by decide +kernel
theorem dX7_isNoGate_6 : decode cX7_isNoGate 6 = .ok (.ireturn, 1) := by decide +kernel
theorem dX7_isNoTaker_0 : decode cX7_isNoTaker 0 = .ok (.iload_n 1, 1) := by decide +kernel
theorem dX7_isNoTaker_1 : decode cX7_isNoTaker 1 = .ok (.iconst 0, 1) := by decide +kernel
theorem dX7_isNoTaker_2 : decode cX7_isNoTaker 2 = .ok (.aload_n 0, 1) := by decide +kernel
theorem dX7_isNoTaker_3 : decode cX7_isNoTaker 3 = .ok (.getfield 10, 3) := by decide +kernel
theorem dX7_isNoTaker_6 : decode cX7_isNoTaker 6 = .ok (.getfield 101, 3) := by decide +kernel
theorem dX7_isNoTaker_9 : decode cX7_isNoTaker 9 = .ok (.iconst 1, 1) := by decide +kernel
theorem dX7_isNoTaker_10 : decode cX7_isNoTaker 10 = .ok (.isub, 1) := by decide +kernel
theorem dX7_isNoTaker_11 : decode cX7_isNoTaker 11 = .ok (.invokestatic 64, 3) := by decide +kernel
theorem dX7_isNoTaker_14 : decode cX7_isNoTaker 14 = .ok (.ireturn, 1) := by decide +kernel
theorem dX7_isNoKeeper_0 : decode cX7_isNoKeeper 0 = .ok (.iload_n 1, 1) := by decide +kernel
theorem dX7_isNoKeeper_1 : decode cX7_isNoKeeper 1 = .ok (.iconst 0, 1) := by decide +kernel
theorem dX7_isNoKeeper_2 : decode cX7_isNoKeeper 2 = .ok (.aload_n 0, 1) := by decide +kernel
theorem dX7_isNoKeeper_3 : decode cX7_isNoKeeper 3 = .ok (.getfield 10, 3) := by decide +kernel
theorem dX7_isNoKeeper_6 : decode cX7_isNoKeeper 6 = .ok (.getfield 104, 3) := by decide +kernel
theorem dX7_isNoKeeper_9 : decode cX7_isNoKeeper 9 = .ok (.iconst 1, 1) := by decide +kernel
theorem dX7_isNoKeeper_10 : decode cX7_isNoKeeper 10 = .ok (.isub, 1) := by decide +kernel
theorem dX7_isNoKeeper_11 : decode cX7_isNoKeeper 11 = .ok (.invokestatic 64, 3) := by decide +kernel
theorem dX7_isNoKeeper_14 : decode cX7_isNoKeeper 14 = .ok (.ireturn, 1) := by decide +kernel
theorem dX7_isNoSheet_0 : decode cX7_isNoSheet 0 = .ok (.iload_n 0, 1) := by decide +kernel
theorem dX7_isNoSheet_1 : decode cX7_isNoSheet 1 = .ok (.iconst 0, 1) := by decide +kernel
theorem dX7_isNoSheet_2 : decode cX7_isNoSheet 2 = .ok (.iconst 3, 1) := by decide +kernel
theorem dX7_isNoSheet_3 : decode cX7_isNoSheet 3 = .ok (.invokestatic 64, 3) := by decide +kernel
theorem dX7_isNoSheet_6 : decode cX7_isNoSheet 6 = .ok (.ireturn, 1) := by decide +kernel
theorem dX7_isNoQuestion_0 : decode cX7_isNoQuestion 0 = .ok (.iload_n 0, 1) := by decide +kernel
theorem dX7_isNoQuestion_1 : decode cX7_isNoQuestion 1 = .ok (.iconst 0, 1) := by decide +kernel
theorem dX7_isNoQuestion_2 : decode cX7_isNoQuestion 2 = .ok (.bipush 60, 2) := by decide +kernel
theorem dX7_isNoQuestion_4 : decode cX7_isNoQuestion 4 = .ok (.invokestatic 64, 3) := by decide +kernel
theorem dX7_isNoQuestion_7 : decode cX7_isNoQuestion 7 = .ok (.ifCond .ne 12, 3) := by decide +kernel
theorem dX7_isNoQuestion_10 : decode cX7_isNoQuestion 10 = .ok (.iload_n 1, 1) := by decide +kernel
theorem dX7_isNoQuestion_11 : decode cX7_isNoQuestion 11 = .ok (.iconst 0, 1) := by decide +kernel
theorem dX7_isNoQuestion_12 : decode cX7_isNoQuestion 12 = .ok (.iconst 1, 1) := by decide +kernel
theorem dX7_isNoQuestion_13 : decode cX7_isNoQuestion 13 = .ok (.invokestatic 64, 3) := by decide +kernel
theorem dX7_isNoQuestion_16 : decode cX7_isNoQuestion 16 = .ok (.ifCond .eq 7, 3) := by decide +kernel
theorem dX7_isNoQuestion_19 : decode cX7_isNoQuestion 19 = .ok (.iconst 1, 1) := by decide +kernel
theorem dX7_isNoQuestion_20 : decode cX7_isNoQuestion 20 = .ok (.goto 4, 3) := by decide +kernel
theorem dX7_isNoQuestion_23 : decode cX7_isNoQuestion 23 = .ok (.iconst 0, 1) := by decide +kernel
theorem dX7_isNoQuestion_24 : decode cX7_isNoQuestion 24 = .ok (.ireturn, 1) := by decide +kernel
theorem dX7_isNoHaze_0 : decode cX7_isNoHaze 0 = .ok (.iload_n 0, 1) := by decide +kernel
theorem dX7_isNoHaze_1 : decode cX7_isNoHaze 1 = .ok (.iconst 0, 1) := by decide +kernel
theorem dX7_isNoHaze_2 : decode cX7_isNoHaze 2 = .ok (.bipush 10, 2) := by decide +kernel
theorem dX7_isNoHaze_4 : decode cX7_isNoHaze 4 = .ok (.invokestatic 64, 3) := by decide +kernel
theorem dX7_isNoHaze_7 : decode cX7_isNoHaze 7 = .ok (.ifCond .ne 22, 3) := by decide +kernel
theorem dX7_isNoHaze_10 : decode cX7_isNoHaze 10 = .ok (.iload_n 1, 1) := by decide +kernel
theorem dX7_isNoHaze_11 : decode cX7_isNoHaze 11 = .ok (.iconst 0, 1) := by decide +kernel
theorem dX7_isNoHaze_12 : decode cX7_isNoHaze 12 = .ok (.bipush 8, 2) := by decide +kernel
theorem dX7_isNoHaze_14 : decode cX7_isNoHaze 14 = .ok (.invokestatic 64, 3) := by decide +kernel
theorem dX7_isNoHaze_17 : decode cX7_isNoHaze 17 = .ok (.ifCond .ne 12, 3) := by decide +kernel
theorem dX7_isNoHaze_20 : decode cX7_isNoHaze 20 = .ok (.iload_n 2, 1) := by decide +kernel
theorem dX7_isNoHaze_21 : decode cX7_isNoHaze 21 = .ok (.iconst 0, 1) := by decide +kernel
theorem dX7_isNoHaze_22 : decode cX7_isNoHaze 22 = .ok (.iconst 1, 1) := by decide +kernel
theorem dX7_isNoHaze_23 : decode cX7_isNoHaze 23 = .ok (.invokestatic 64, 3) := by decide +kernel
theorem dX7_isNoHaze_26 : decode cX7_isNoHaze 26 = .ok (.ifCond .eq 7, 3) := by decide +kernel
theorem dX7_isNoHaze_29 : decode cX7_isNoHaze 29 = .ok (.iconst 1, 1) := by decide +kernel
theorem dX7_isNoHaze_30 : decode cX7_isNoHaze 30 = .ok (.goto 4, 3) := by decide +kernel
theorem dX7_isNoHaze_33 : decode cX7_isNoHaze 33 = .ok (.iconst 0, 1) := by decide +kernel
theorem dX7_isNoHaze_34 : decode cX7_isNoHaze 34 = .ok (.ireturn, 1) := by decide +kernel
theorem dX7_replace_0 : decode cX7_replace 0 = .ok (.iload_n 2, 1) := by decide +kernel
theorem dX7_replace_1 : decode cX7_replace 1 = .ok (.iload_n 3, 1) := by decide +kernel
theorem dX7_replace_2 : decode cX7_replace 2 = .ok (.iload 4, 2) := by decide +kernel
theorem dX7_replace_4 : decode cX7_replace 4 = .ok (.invokestatic 64, 3) := by decide +kernel
theorem dX7_replace_7 : decode cX7_replace 7 = .ok (.ifCond .ne 15, 3) := by decide +kernel
theorem dX7_replace_10 : decode cX7_replace 10 = .ok (.iload_n 1, 1) := by decide +kernel
theorem dX7_replace_11 : decode cX7_replace 11 = .ok (.iconst 0, 1) := by decide +kernel
theorem dX7_replace_12 : decode cX7_replace 12 = .ok (.aload_n 0, 1) := by decide +kernel
theorem dX7_replace_13 : decode cX7_replace 13 = .ok (.arraylength, 1) := by decide +kernel
theorem dX7_replace_14 : decode cX7_replace 14 = .ok (.iconst 1, 1) := by decide +kernel
theorem dX7_replace_15 : decode cX7_replace 15 = .ok (.isub, 1) := by decide +kernel
theorem dX7_replace_16 : decode cX7_replace 16 = .ok (.invokestatic 64, 3) := by decide +kernel
theorem dX7_replace_19 : decode cX7_replace 19 = .ok (.ifCond .eq 5, 3) := by decide +kernel
theorem dX7_replace_22 : decode cX7_replace 22 = .ok (.iconst (-1), 1) := by decide +kernel
theorem dX7_replace_23 : decode cX7_replace 23 = .ok (.ireturn, 1) := by decide +kernel
theorem dX7_replace_24 : decode cX7_replace 24 = .ok (.aload_n 0, 1) := by decide +kernel
theorem dX7_replace_25 : decode cX7_replace 25 = .ok (.iload_n 1, 1) := by decide +kernel
theorem dX7_replace_26 : decode cX7_replace 26 = .ok (.iaload, 1) := by decide +kernel
theorem dX7_replace_27 : decode cX7_replace 27 = .ok (.istore 5, 2) := by decide +kernel
theorem dX7_replace_29 : decode cX7_replace 29 = .ok (.aload_n 0, 1) := by decide +kernel
theorem dX7_replace_30 : decode cX7_replace 30 = .ok (.iload_n 1, 1) := by decide +kernel
theorem dX7_replace_31 : decode cX7_replace 31 = .ok (.iload_n 2, 1) := by decide +kernel
theorem dX7_replace_32 : decode cX7_replace 32 = .ok (.iastore, 1) := by decide +kernel
theorem dX7_replace_33 : decode cX7_replace 33 = .ok (.iload 5, 2) := by decide +kernel
theorem dX7_replace_35 : decode cX7_replace 35 = .ok (.ireturn, 1) := by decide +kernel
theorem dX7_fullestBag_0 : decode cX7_fullestBag 0 = .ok (.iconst 0, 1) := by decide +kernel
theorem dX7_fullestBag_1 : decode cX7_fullestBag 1 = .ok (.istore 6, 2) := by decide +kernel
theorem dX7_fullestBag_3 : decode cX7_fullestBag 3 = .ok (.iconst (-1), 1) := by decide +kernel
theorem dX7_fullestBag_4 : decode cX7_fullestBag 4 = .ok (.istore 7, 2) := by decide +kernel
theorem dX7_fullestBag_6 : decode cX7_fullestBag 6 = .ok (.iconst 0, 1) := by decide +kernel
theorem dX7_fullestBag_7 : decode cX7_fullestBag 7 = .ok (.istore 8, 2) := by decide +kernel
theorem dX7_fullestBag_9 : decode cX7_fullestBag 9 = .ok (.iload 8, 2) := by decide +kernel
theorem dX7_fullestBag_11 : decode cX7_fullestBag 11 = .ok (.iload_n 3, 1) := by decide +kernel
theorem dX7_fullestBag_12 : decode cX7_fullestBag 12 = .ok (.if_icmp .gt 69, 3) := by decide +kernel
theorem dX7_fullestBag_15 : decode cX7_fullestBag 15 = .ok (.aload_n 0, 1) := by decide +kernel
theorem dX7_fullestBag_16 : decode cX7_fullestBag 16 = .ok (.getfield 19, 3) := by decide +kernel
theorem dX7_fullestBag_19 : decode cX7_fullestBag 19 = .ok (.aload_n 0, 1) := by decide +kernel
theorem dX7_fullestBag_20 : decode cX7_fullestBag 20 = .ok (.getfield 10, 3) := by decide +kernel
theorem dX7_fullestBag_23 : decode cX7_fullestBag 23 = .ok (.invokevirtual 190, 3) := by decide +kernel
theorem dX7_fullestBag_26 : decode cX7_fullestBag 26 = .ok (.aload_n 2, 1) := by decide +kernel
theorem dX7_fullestBag_27 : decode cX7_fullestBag 27 = .ok (.iload_n 1, 1) := by decide +kernel
theorem dX7_fullestBag_28 : decode cX7_fullestBag 28 = .ok (.iload 8, 2) := by decide +kernel
theorem dX7_fullestBag_30 : decode cX7_fullestBag 30 = .ok (.iastore, 1) := by decide +kernel
theorem dX7_fullestBag_31 : decode cX7_fullestBag 31 = .ok (.aload_n 0, 1) := by decide +kernel
theorem dX7_fullestBag_32 : decode cX7_fullestBag 32 = .ok (.getfield 19, 3) := by decide +kernel
theorem dX7_fullestBag_35 : decode cX7_fullestBag 35 = .ok (.iload 4, 2) := by decide +kernel
theorem dX7_fullestBag_37 : decode cX7_fullestBag 37 = .ok (.invokevirtual 193, 3) := by decide +kernel
theorem dX7_fullestBag_40 : decode cX7_fullestBag 40 = .ok (.aload_n 0, 1) := by decide +kernel
theorem dX7_fullestBag_41 : decode cX7_fullestBag 41 = .ok (.getfield 19, 3) := by decide +kernel
theorem dX7_fullestBag_44 : decode cX7_fullestBag 44 = .ok (.getfield 78, 3) := by decide +kernel
theorem dX7_fullestBag_47 : decode cX7_fullestBag 47 = .ok (.getfield 152, 3) := by decide +kernel
theorem dX7_fullestBag_50 : decode cX7_fullestBag 50 = .ok (.iload_n 1, 1) := by decide +kernel
theorem dX7_fullestBag_51 : decode cX7_fullestBag 51 = .ok (.iaload, 1) := by decide +kernel
theorem dX7_fullestBag_52 : decode cX7_fullestBag 52 = .ok (.iload 7, 2) := by decide +kernel
theorem dX7_fullestBag_54 : decode cX7_fullestBag 54 = .ok (.if_icmp .le 21, 3) := by decide +kernel
theorem dX7_fullestBag_57 : decode cX7_fullestBag 57 = .ok (.aload_n 0, 1) := by decide +kernel
theorem dX7_fullestBag_58 : decode cX7_fullestBag 58 = .ok (.getfield 19, 3) := by decide +kernel
theorem dX7_fullestBag_61 : decode cX7_fullestBag 61 = .ok (.getfield 78, 3) := by decide +kernel
theorem dX7_fullestBag_64 : decode cX7_fullestBag 64 = .ok (.getfield 152, 3) := by decide +kernel
theorem dX7_fullestBag_67 : decode cX7_fullestBag 67 = .ok (.iload_n 1, 1) := by decide +kernel
theorem dX7_fullestBag_68 : decode cX7_fullestBag 68 = .ok (.iaload, 1) := by decide +kernel
theorem dX7_fullestBag_69 : decode cX7_fullestBag 69 = .ok (.istore 7, 2) := by decide +kernel
theorem dX7_fullestBag_71 : decode cX7_fullestBag 71 = .ok (.iload 8, 2) := by decide +kernel
theorem dX7_fullestBag_73 : decode cX7_fullestBag 73 = .ok (.istore 6, 2) := by decide +kernel
theorem dX7_fullestBag_75 : decode cX7_fullestBag 75 = .ok (.iinc 8 1, 3) := by decide +kernel
theorem dX7_fullestBag_78 : decode cX7_fullestBag 78 = .ok (.goto (-69), 3) := by decide +kernel
theorem dX7_fullestBag_81 : decode cX7_fullestBag 81 = .ok (.iload 5, 2) := by decide +kernel
theorem dX7_fullestBag_83 : decode cX7_fullestBag 83 = .ok (.ifCond .ne 8, 3) := by decide +kernel
theorem dX7_fullestBag_86 : decode cX7_fullestBag 86 = .ok (.iload 6, 2) := by decide +kernel
theorem dX7_fullestBag_88 : decode cX7_fullestBag 88 = .ok (.goto 5, 3) := by decide +kernel
theorem dX7_fullestBag_91 : decode cX7_fullestBag 91 = .ok (.iload 7, 2) := by decide +kernel
theorem dX7_fullestBag_93 : decode cX7_fullestBag 93 = .ok (.ireturn, 1) := by decide +kernel
theorem dX7_fittingBits_0 : decode cX7_fittingBits 0 = .ok (.iconst 0, 1) := by decide +kernel
theorem dX7_fittingBits_1 : decode cX7_fittingBits 1 = .ok (.istore 4, 2) := by decide +kernel
theorem dX7_fittingBits_3 : decode cX7_fittingBits 3 = .ok (.iconst 0, 1) := by decide +kernel
theorem dX7_fittingBits_4 : decode cX7_fittingBits 4 = .ok (.istore 5, 2) := by decide +kernel
theorem dX7_fittingBits_6 : decode cX7_fittingBits 6 = .ok (.iload 5, 2) := by decide +kernel
theorem dX7_fittingBits_8 : decode cX7_fittingBits 8 = .ok (.iload_n 3, 1) := by decide +kernel
theorem dX7_fittingBits_9 : decode cX7_fittingBits 9 = .ok (.if_icmp .gt 48, 3) := by decide +kernel
theorem dX7_fittingBits_12 : decode cX7_fittingBits 12 = .ok (.aload_n 0, 1) := by decide +kernel
theorem dX7_fittingBits_13 : decode cX7_fittingBits 13 = .ok (.getfield 19, 3) := by decide +kernel
theorem dX7_fittingBits_16 : decode cX7_fittingBits 16 = .ok (.aload_n 0, 1) := by decide +kernel
theorem dX7_fittingBits_17 : decode cX7_fittingBits 17 = .ok (.getfield 10, 3) := by decide +kernel
theorem dX7_fittingBits_20 : decode cX7_fittingBits 20 = .ok (.invokevirtual 190, 3) := by decide +kernel
theorem dX7_fittingBits_23 : decode cX7_fittingBits 23 = .ok (.aload_n 2, 1) := by decide +kernel
theorem dX7_fittingBits_24 : decode cX7_fittingBits 24 = .ok (.iload_n 1, 1) := by decide +kernel
theorem dX7_fittingBits_25 : decode cX7_fittingBits 25 = .ok (.iload 5, 2) := by decide +kernel
theorem dX7_fittingBits_27 : decode cX7_fittingBits 27 = .ok (.iastore, 1) := by decide +kernel
theorem dX7_fittingBits_28 : decode cX7_fittingBits 28 = .ok (.aload_n 0, 1) := by decide +kernel
theorem dX7_fittingBits_29 : decode cX7_fittingBits 29 = .ok (.getfield 38, 3) := by decide +kernel
theorem dX7_fittingBits_32 : decode cX7_fittingBits 32 = .ok (.aload_n 0, 1) := by decide +kernel
theorem dX7_fittingBits_33 : decode cX7_fittingBits 33 = .ok (.getfield 19, 3) := by decide +kernel
theorem dX7_fittingBits_36 : decode cX7_fittingBits 36 = .ok (.invokevirtual 302, 3) := by decide +kernel
theorem dX7_fittingBits_39 : decode cX7_fittingBits 39 = .ok (.ifCond .eq 12, 3) := by decide +kernel
theorem dX7_fittingBits_42 : decode cX7_fittingBits 42 = .ok (.iload 4, 2) := by decide +kernel
theorem dX7_fittingBits_44 : decode cX7_fittingBits 44 = .ok (.iconst 1, 1) := by decide +kernel
theorem dX7_fittingBits_45 : decode cX7_fittingBits 45 = .ok (.iload 5, 2) := by decide +kernel
theorem dX7_fittingBits_47 : decode cX7_fittingBits 47 = .ok (.ishl, 1) := by decide +kernel
theorem dX7_fittingBits_48 : decode cX7_fittingBits 48 = .ok (.ior, 1) := by decide +kernel
theorem dX7_fittingBits_49 : decode cX7_fittingBits 49 = .ok (.istore 4, 2) := by decide +kernel
theorem dX7_fittingBits_51 : decode cX7_fittingBits 51 = .ok (.iinc 5 1, 3) := by decide +kernel
theorem dX7_fittingBits_54 : decode cX7_fittingBits 54 = .ok (.goto (-48), 3) := by decide +kernel
theorem dX7_fittingBits_57 : decode cX7_fittingBits 57 = .ok (.iload 4, 2) := by decide +kernel
theorem dX7_fittingBits_59 : decode cX7_fittingBits 59 = .ok (.ireturn, 1) := by decide +kernel
theorem dX7_sendTaker_0 : decode cX7_sendTaker 0 = .ok (.aload_n 0, 1) := by decide +kernel
theorem dX7_sendTaker_1 : decode cX7_sendTaker 1 = .ok (.iload_n 1, 1) := by decide +kernel
theorem dX7_sendTaker_2 : decode cX7_sendTaker 2 = .ok (.invokevirtual 143, 3) := by decide +kernel
theorem dX7_sendTaker_5 : decode cX7_sendTaker 5 = .ok (.ifCond .ne 26, 3) := by decide +kernel
theorem dX7_sendTaker_8 : decode cX7_sendTaker 8 = .ok (.iload_n 2, 1) := by decide +kernel
theorem dX7_sendTaker_9 : decode cX7_sendTaker 9 = .ok (.invokestatic 126, 3) := by decide +kernel
theorem dX7_sendTaker_12 : decode cX7_sendTaker 12 = .ok (.ifCond .ne 19, 3) := by decide +kernel
theorem dX7_sendTaker_15 : decode cX7_sendTaker 15 = .ok (.aload_n 0, 1) := by decide +kernel
theorem dX7_sendTaker_16 : decode cX7_sendTaker 16 = .ok (.getfield 19, 3) := by decide +kernel
theorem dX7_sendTaker_19 : decode cX7_sendTaker 19 = .ok (.getfield 78, 3) := by decide +kernel
theorem dX7_sendTaker_22 : decode cX7_sendTaker 22 = .ok (.getfield 107, 3) := by decide +kernel
theorem dX7_sendTaker_25 : decode cX7_sendTaker 25 = .ok (.sipush 999, 3) := by decide +kernel
theorem dX7_sendTaker_28 : decode cX7_sendTaker 28 = .ok (.if_icmp .lt 5, 3) := by decide +kernel
theorem dX7_sendTaker_31 : decode cX7_sendTaker 31 = .ok (.iconst 0, 1) := by decide +kernel
theorem dX7_sendTaker_32 : decode cX7_sendTaker 32 = .ok (.ireturn, 1) := by decide +kernel
theorem dX7_sendTaker_33 : decode cX7_sendTaker 33 = .ok (.aload_n 0, 1) := by decide +kernel
theorem dX7_sendTaker_34 : decode cX7_sendTaker 34 = .ok (.getfield 19, 3) := by decide +kernel
theorem dX7_sendTaker_37 : decode cX7_sendTaker 37 = .ok (.getfield 78, 3) := by decide +kernel
theorem dX7_sendTaker_40 : decode cX7_sendTaker 40 = .ok (.getfield 149, 3) := by decide +kernel
theorem dX7_sendTaker_43 : decode cX7_sendTaker 43 = .ok (.iload_n 1, 1) := by decide +kernel
theorem dX7_sendTaker_44 : decode cX7_sendTaker 44 = .ok (.iload_n 2, 1) := by decide +kernel
theorem dX7_sendTaker_45 : decode cX7_sendTaker 45 = .ok (.iastore, 1) := by decide +kernel
theorem dX7_sendTaker_46 : decode cX7_sendTaker 46 = .ok (.aload_n 0, 1) := by decide +kernel
theorem dX7_sendTaker_47 : decode cX7_sendTaker 47 = .ok (.getfield 19, 3) := by decide +kernel
theorem dX7_sendTaker_50 : decode cX7_sendTaker 50 = .ok (.iconst 0, 1) := by decide +kernel
theorem dX7_sendTaker_51 : decode cX7_sendTaker 51 = .ok (.invokevirtual 213, 3) := by decide +kernel
theorem dX7_sendTaker_54 : decode cX7_sendTaker 54 = .ok (.iconst 1, 1) := by decide +kernel
theorem dX7_sendTaker_55 : decode cX7_sendTaker 55 = .ok (.ireturn, 1) := by decide +kernel
theorem dX7_takenInHazes_0 : decode cX7_takenInHazes 0 = .ok (.aload_n 0, 1) := by decide +kernel
theorem dX7_takenInHazes_1 : decode cX7_takenInHazes 1 = .ok (.getfield 19, 3) := by decide +kernel
theorem dX7_takenInHazes_4 : decode cX7_takenInHazes 4 = .ok (.aload_n 0, 1) := by decide +kernel
theorem dX7_takenInHazes_5 : decode cX7_takenInHazes 5 = .ok (.getfield 10, 3) := by decide +kernel
theorem dX7_takenInHazes_8 : decode cX7_takenInHazes 8 = .ok (.invokevirtual 190, 3) := by decide +kernel
theorem dX7_takenInHazes_11 : decode cX7_takenInHazes 11 = .ok (.iconst 0, 1) := by decide +kernel
theorem dX7_takenInHazes_12 : decode cX7_takenInHazes 12 = .ok (.istore_n 3, 1) := by decide +kernel
theorem dX7_takenInHazes_13 : decode cX7_takenInHazes 13 = .ok (.iload_n 3, 1) := by decide +kernel
theorem dX7_takenInHazes_14 : decode cX7_takenInHazes 14 = .ok (.iload_n 2, 1) := by decide +kernel
theorem dX7_takenInHazes_15 : decode cX7_takenInHazes 15 = .ok (.if_icmp .ge 30, 3) := by decide +kernel
theorem dX7_takenInHazes_18 : decode cX7_takenInHazes 18 = .ok (.aload_n 0, 1) := by decide +kernel
theorem dX7_takenInHazes_19 : decode cX7_takenInHazes 19 = .ok (.getfield 19, 3) := by decide +kernel
theorem dX7_takenInHazes_22 : decode cX7_takenInHazes 22 = .ok (.iload_n 1, 1) := by decide +kernel
theorem dX7_takenInHazes_23 : decode cX7_takenInHazes 23 = .ok (.iload_n 3, 1) := by decide +kernel
theorem dX7_takenInHazes_24 : decode cX7_takenInHazes 24 = .ok (.ishr, 1) := by decide +kernel
theorem dX7_takenInHazes_25 : decode cX7_takenInHazes 25 = .ok (.iconst 1, 1) := by decide +kernel
theorem dX7_takenInHazes_26 : decode cX7_takenInHazes 26 = .ok (.iand, 1) := by decide +kernel
theorem dX7_takenInHazes_27 : decode cX7_takenInHazes 27 = .ok (.iconst 1, 1) := by decide +kernel
theorem dX7_takenInHazes_28 : decode cX7_takenInHazes 28 = .ok (.if_icmp .ne 7, 3) := by decide +kernel
theorem dX7_takenInHazes_31 : decode cX7_takenInHazes 31 = .ok (.iconst 1, 1) := by decide +kernel
theorem dX7_takenInHazes_32 : decode cX7_takenInHazes 32 = .ok (.goto 4, 3) := by decide +kernel
theorem dX7_takenInHazes_35 : decode cX7_takenInHazes 35 = .ok (.iconst 0, 1) := by decide +kernel
theorem dX7_takenInHazes_36 : decode cX7_takenInHazes 36 = .ok (.invokevirtual 213, 3) := by decide +kernel
theorem dX7_takenInHazes_39 : decode cX7_takenInHazes 39 = .ok (.iinc 3 1, 3) := by decide +kernel
theorem dX7_takenInHazes_42 : decode cX7_takenInHazes 42 = .ok (.goto (-29), 3) := by decide +kernel
theorem dX7_takenInHazes_45 : decode cX7_takenInHazes 45 = .ok (.aload_n 0, 1) := by decide +kernel
theorem dX7_takenInHazes_46 : decode cX7_takenInHazes 46 = .ok (.getfield 19, 3) := by decide +kernel
theorem dX7_takenInHazes_49 : decode cX7_takenInHazes 49 = .ok (.getfield 197, 3) := by decide +kernel
theorem dX7_takenInHazes_52 : decode cX7_takenInHazes 52 = .ok (.ireturn, 1) := by decide +kernel
theorem dX7_weightOf_0 : decode cX7_weightOf 0 = .ok (.lconst 1, 1) := by decide +kernel
theorem dX7_weightOf_1 : decode cX7_weightOf 1 = .ok (.lstore_n 3, 1) := by decide +kernel
theorem dX7_weightOf_2 : decode cX7_weightOf 2 = .ok (.iconst 0, 1) := by decide +kernel
theorem dX7_weightOf_3 : decode cX7_weightOf 3 = .ok (.istore 5, 2) := by decide +kernel
theorem dX7_weightOf_5 : decode cX7_weightOf 5 = .ok (.iload 5, 2) := by decide +kernel
theorem dX7_weightOf_7 : decode cX7_weightOf 7 = .ok (.iload_n 2, 1) := by decide +kernel
theorem dX7_weightOf_8 : decode cX7_weightOf 8 = .ok (.if_icmp .ge 32, 3) := by decide +kernel
theorem dX7_weightOf_11 : decode cX7_weightOf 11 = .ok (.lload_n 3, 1) := by decide +kernel
theorem dX7_weightOf_12 : decode cX7_weightOf 12 = .ok (.iload_n 0, 1) := by decide +kernel
theorem dX7_weightOf_13 : decode cX7_weightOf 13 = .ok (.iload 5, 2) := by decide +kernel
theorem dX7_weightOf_15 : decode cX7_weightOf 15 = .ok (.ishr, 1) := by decide +kernel
theorem dX7_weightOf_16 : decode cX7_weightOf 16 = .ok (.iconst 1, 1) := by decide +kernel
theorem dX7_weightOf_17 : decode cX7_weightOf 17 = .ok (.iand, 1) := by decide +kernel
theorem dX7_weightOf_18 : decode cX7_weightOf 18 = .ok (.iconst 1, 1) := by decide +kernel
theorem dX7_weightOf_19 : decode cX7_weightOf 19 = .ok (.if_icmp .ne 8, 3) := by decide +kernel
theorem dX7_weightOf_22 : decode cX7_weightOf 22 = .ok (.iload_n 1, 1) := by decide +kernel
theorem dX7_weightOf_23 : decode cX7_weightOf 23 = .ok (.i2l, 1) := by decide +kernel
theorem dX7_weightOf_24 : decode cX7_weightOf 24 = .ok (.goto 8, 3) := by decide +kernel
theorem dX7_weightOf_27 : decode cX7_weightOf 27 = .ok (.bipush 10, 2) := by decide +kernel
theorem dX7_weightOf_29 : decode cX7_weightOf 29 = .ok (.iload_n 1, 1) := by decide +kernel
theorem dX7_weightOf_30 : decode cX7_weightOf 30 = .ok (.isub, 1) := by decide +kernel
theorem dX7_weightOf_31 : decode cX7_weightOf 31 = .ok (.i2l, 1) := by decide +kernel
theorem dX7_weightOf_32 : decode cX7_weightOf 32 = .ok (.lmul, 1) := by decide +kernel
theorem dX7_weightOf_33 : decode cX7_weightOf 33 = .ok (.lstore_n 3, 1) := by decide +kernel
theorem dX7_weightOf_34 : decode cX7_weightOf 34 = .ok (.iinc 5 1, 3) := by decide +kernel
theorem dX7_weightOf_37 : decode cX7_weightOf 37 = .ok (.goto (-32), 3) := by decide +kernel
theorem dX7_weightOf_40 : decode cX7_weightOf 40 = .ok (.lload_n 3, 1) := by decide +kernel
theorem dX7_weightOf_41 : decode cX7_weightOf 41 = .ok (.lreturn, 1) := by decide +kernel
theorem dX7_partOfFraction_0 : decode cX7_partOfFraction 0 = .ok (.lload_n 0, 1) := by decide +kernel
theorem dX7_partOfFraction_1 : decode cX7_partOfFraction 1 = .ok (.lload_n 2, 1) := by decide +kernel
theorem dX7_partOfFraction_2 : decode cX7_partOfFraction 2 = .ok (.invokestatic 306, 3) := by decide +kernel
theorem dX7_partOfFraction_5 : decode cX7_partOfFraction 5 = .ok (.lstore 5, 2) := by decide +kernel
theorem dX7_partOfFraction_7 : decode cX7_partOfFraction 7 = .ok (.iload 4, 2) := by decide +kernel
theorem dX7_partOfFraction_9 : decode cX7_partOfFraction 9 = .ok (.ifCond .ne 10, 3) := by decide +kernel
theorem dX7_partOfFraction_12 : decode cX7_partOfFraction 12 = .ok (.lload_n 0, 1) := by decide +kernel
theorem dX7_partOfFraction_13 : decode cX7_partOfFraction 13 = .ok (.lload 5, 2) := by decide +kernel
theorem dX7_partOfFraction_15 : decode cX7_partOfFraction 15 = .ok (.ldiv, 1) := by decide +kernel
theorem dX7_partOfFraction_16 : decode cX7_partOfFraction 16 = .ok (.goto 7, 3) := by decide +kernel
theorem dX7_partOfFraction_19 : decode cX7_partOfFraction 19 = .ok (.lload_n 2, 1) := by decide +kernel
theorem dX7_partOfFraction_20 : decode cX7_partOfFraction 20 = .ok (.lload 5, 2) := by decide +kernel
theorem dX7_partOfFraction_22 : decode cX7_partOfFraction 22 = .ok (.ldiv, 1) := by decide +kernel
theorem dX7_partOfFraction_23 : decode cX7_partOfFraction 23 = .ok (.lreturn, 1) := by decide +kernel
theorem dX7_commonDivisor_0 : decode cX7_commonDivisor 0 = .ok (.lload_n 0, 1) := by decide +kernel
theorem dX7_commonDivisor_1 : decode cX7_commonDivisor 1 = .ok (.lstore 4, 2) := by decide +kernel
theorem dX7_commonDivisor_3 : decode cX7_commonDivisor 3 = .ok (.lload_n 2, 1) := by decide +kernel
theorem dX7_commonDivisor_4 : decode cX7_commonDivisor 4 = .ok (.lstore 6, 2) := by decide +kernel
theorem dX7_commonDivisor_6 : decode cX7_commonDivisor 6 = .ok (.iconst 0, 1) := by decide +kernel
theorem dX7_commonDivisor_7 : decode cX7_commonDivisor 7 = .ok (.istore 8, 2) := by decide +kernel
theorem dX7_commonDivisor_9 : decode cX7_commonDivisor 9 = .ok (.iload 8, 2) := by decide +kernel
theorem dX7_commonDivisor_11 : decode cX7_commonDivisor 11 = .ok (.bipush 100, 2) := by decide +kernel
theorem dX7_commonDivisor_13 : decode cX7_commonDivisor 13 = .ok (.if_icmp .ge 31, 3) := by decide +kernel
theorem dX7_commonDivisor_16 : decode cX7_commonDivisor 16 = .ok (.lload 6, 2) := by decide +kernel
theorem dX7_commonDivisor_18 : decode cX7_commonDivisor 18 = .ok (.lconst 0, 1) := by decide +kernel
theorem dX7_commonDivisor_19 : decode cX7_commonDivisor 19 = .ok (.lcmp, 1) := by decide +kernel
theorem dX7_commonDivisor_20 : decode cX7_commonDivisor 20 = .ok (.ifCond .eq 24, 3) := by decide +kernel
theorem dX7_commonDivisor_23 : decode cX7_commonDivisor 23 = .ok (.lload 4, 2) := by decide +kernel
theorem dX7_commonDivisor_25 : decode cX7_commonDivisor 25 = .ok (.lload 6, 2) := by decide +kernel
theorem dX7_commonDivisor_27 : decode cX7_commonDivisor 27 = .ok (.lrem, 1) := by decide +kernel
theorem dX7_commonDivisor_28 : decode cX7_commonDivisor 28 = .ok (.lstore 9, 2) := by decide +kernel
theorem dX7_commonDivisor_30 : decode cX7_commonDivisor 30 = .ok (.lload 6, 2) := by decide +kernel
theorem dX7_commonDivisor_32 : decode cX7_commonDivisor 32 = .ok (.lstore 4, 2) := by decide +kernel
theorem dX7_commonDivisor_34 : decode cX7_commonDivisor 34 = .ok (.lload 9, 2) := by decide +kernel
theorem dX7_commonDivisor_36 : decode cX7_commonDivisor 36 = .ok (.lstore 6, 2) := by decide +kernel
theorem dX7_commonDivisor_38 : decode cX7_commonDivisor 38 = .ok (.iinc 8 1, 3) := by decide +kernel
theorem dX7_commonDivisor_41 : decode cX7_commonDivisor 41 = .ok (.goto (-32), 3) := by decide +kernel
theorem dX7_commonDivisor_44 : decode cX7_commonDivisor 44 = .ok (.lload 4, 2) := by decide +kernel
theorem dX7_commonDivisor_46 : decode cX7_commonDivisor 46 = .ok (.lconst 0, 1) := by decide +kernel
theorem dX7_commonDivisor_47 : decode cX7_commonDivisor 47 = .ok (.lcmp, 1) := by decide +kernel
theorem dX7_commonDivisor_48 : decode cX7_commonDivisor 48 = .ok (.ifCond .le 8, 3) := by decide +kernel
theorem dX7_commonDivisor_51 : decode cX7_commonDivisor 51 = .ok (.lload 4, 2) := by decide +kernel
theorem dX7_commonDivisor_53 : decode cX7_commonDivisor 53 = .ok (.goto 4, 3) := by decide +kernel
theorem dX7_commonDivisor_56 : decode cX7_commonDivisor 56 = .ok (.lconst 1, 1) := by decide +kernel
theorem dX7_commonDivisor_57 : decode cX7_commonDivisor 57 = .ok (.lreturn, 1) := by decide +kernel
