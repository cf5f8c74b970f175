theorem dX0_init_0 : decode cX0_init 0 = .ok (.aload_n 0, 1) := by decide +kernel
theorem dX0_init_1 : decode cX0_init 1 = .ok (.invokespecial 1, 3) := by decide +kernel
theorem dX0_init_4 : decode cX0_init 4 = .ok (.aload_n 0, 1) := by decide +kernel
theorem dX0_init_5 : decode cX0_init 5 = .ok (.bipush 6, 2) := by decide +kernel
theorem dX0_init_7 : decode cX0_init 7 = .ok (.newarray .int, 2) := by decide +kernel
theorem dX0_init_9 : decode cX0_init 9 = .ok (.putfield 9, 3) := by decide +kernel
theorem dX0_init_12 : decode cX0_init 12 = .ok (.aload_n 0, 1) := by decide +kernel
theorem dX0_init_13 : decode cX0_init 13 = .ok (.bipush 6, 2) := by decide +kernel
theorem dX0_init_15 : decode cX0_init 15 = .ok (.newarray .int, 2) := by decide +kernel
theorem dX0_init_17 : decode cX0_init 17 = .ok (.putfield 13, 3) := by decide +kernel
theorem dX0_init_20 : decode cX0_init 20 = .ok (.aload_n 0, 1) := by decide +kernel
theorem dX0_init_21 : decode cX0_init 21 = .ok (.iconst 5, 1) := by decide +kernel
theorem dX0_init_22 : decode cX0_init 22 = .ok (.newarray .int, 2) := by decide +kernel
theorem dX0_init_24 : decode cX0_init 24 = .ok (.putfield 16, 3) := by decide +kernel
theorem dX0_init_27 : decode cX0_init 27 = .ok (.aload_n 0, 1) := by decide +kernel
theorem dX0_init_28 : decode cX0_init 28 = .ok (.iconst 5, 1) := by decide +kernel
theorem dX0_init_29 : decode cX0_init 29 = .ok (.newarray .int, 2) := by decide +kernel
theorem dX0_init_31 : decode cX0_init 31 = .ok (.putfield 19, 3) := by decide +kernel
theorem dX0_init_34 : decode cX0_init 34 = .ok (.aload_n 0, 1) := by decide +kernel
theorem dX0_init_35 : decode cX0_init 35 = .ok (.iconst 5, 1) := by decide +kernel
theorem dX0_init_36 : decode cX0_init 36 = .ok (.newarray .int, 2) := by decide +kernel
theorem dX0_init_38 : decode cX0_init 38 = .ok (.putfield 22, 3) := by decide +kernel
theorem dX0_init_41 : decode cX0_init 41 = .ok (.aload_n 0, 1) := by decide +kernel
theorem dX0_init_42 : decode cX0_init 42 = .ok (.iconst 5, 1) := by decide +kernel
theorem dX0_init_43 : decode cX0_init 43 = .ok (.newarray .int, 2) := by decide +kernel
theorem dX0_init_45 : decode cX0_init 45 = .ok (.putfield 25, 3) := by decide +kernel
theorem dX0_init_48 : decode cX0_init 48 = .ok (.aload_n 0, 1) := by decide +kernel
theorem dX0_init_49 : decode cX0_init 49 = .ok (.iconst 3, 1) := by decide +kernel
theorem dX0_init_50 : decode cX0_init 50 = .ok (.newarray .int, 2) := by decide +kernel
theorem dX0_init_52 : decode cX0_init 52 = .ok (.putfield 28, 3) := by decide +kernel
theorem dX0_init_55 : decode cX0_init 55 = .ok (.aload_n 0, 1) := by decide +kernel
theorem dX0_init_56 : decode cX0_init 56 = .ok (.iconst 3, 1) := by decide +kernel
theorem dX0_init_57 : decode cX0_init 57 = .ok (.newarray .int, 2) := by decide +kernel
theorem dX0_init_59 : decode cX0_init 59 = .ok (.putfield 31, 3) := by decide +kernel
theorem dX0_init_62 : decode cX0_init 62 = .ok (.aload_n 0, 1) := by decide +kernel
theorem dX0_init_63 : decode cX0_init 63 = .ok (.iconst 3, 1) := by decide +kernel
theorem dX0_init_64 : decode cX0_init 64 = .ok (.newarray .int, 2) := by decide +kernel
theorem dX0_init_66 : decode cX0_init 66 = .ok (.putfield 34, 3) := by decide +kernel
theorem dX0_init_69 : decode cX0_init 69 = .ok (.aload_n 0, 1) := by decide +kernel
theorem dX0_init_70 : decode cX0_init 70 = .ok (.invokevirtual 37, 3) := by decide +kernel
theorem dX0_init_73 : decode cX0_init 73 = .ok (.return_, 1) := by decide +kernel
theorem dX0_clear_0 : decode cX0_clear 0 = .ok (.iconst 0, 1) := by decide +kernel
theorem dX0_clear_1 : decode cX0_clear 1 = .ok (.istore_n 1, 1) := by decide +kernel
theorem dX0_clear_2 : decode cX0_clear 2 = .ok (.iload_n 1, 1) := by decide +kernel
theorem dX0_clear_3 : decode cX0_clear 3 = .ok (.bipush 6, 2) := by decide +kernel
theorem dX0_clear_5 : decode cX0_clear 5 = .ok (.if_icmp .ge 24, 3) := by decide +kernel
theorem dX0_clear_8 : decode cX0_clear 8 = .ok (.aload_n 0, 1) := by decide +kernel
theorem dX0_clear_9 : decode cX0_clear 9 = .ok (.getfield 9, 3) := by decide +kernel
theorem dX0_clear_12 : decode cX0_clear 12 = .ok (.iload_n 1, 1) := by decide +kernel
theorem dX0_clear_13 : decode cX0_clear 13 = .ok (.bipush 30, 2) := by decide +kernel
theorem dX0_clear_15 : decode cX0_clear 15 = .ok (.iastore, 1) := by decide +kernel
theorem dX0_clear_16 : decode cX0_clear 16 = .ok (.aload_n 0, 1) := by decide +kernel
theorem dX0_clear_17 : decode cX0_clear 17 = .ok (.getfield 13, 3) := by decide +kernel
theorem dX0_clear_20 : decode cX0_clear 20 = .ok (.iload_n 1, 1) := by decide +kernel
theorem dX0_clear_21 : decode cX0_clear 21 = .ok (.iconst 2, 1) := by decide +kernel
theorem dX0_clear_22 : decode cX0_clear 22 = .ok (.iastore, 1) := by decide +kernel
theorem dX0_clear_23 : decode cX0_clear 23 = .ok (.iinc 1 1, 3) := by decide +kernel
theorem dX0_clear_26 : decode cX0_clear 26 = .ok (.goto (-24), 3) := by decide +kernel
theorem dX0_clear_29 : decode cX0_clear 29 = .ok (.aload_n 0, 1) := by decide +kernel
theorem dX0_clear_30 : decode cX0_clear 30 = .ok (.iconst 0, 1) := by decide +kernel
theorem dX0_clear_31 : decode cX0_clear 31 = .ok (.putfield 40, 3) := by decide +kernel
theorem dX0_clear_34 : decode cX0_clear 34 = .ok (.aload_n 0, 1) := by decide +kernel
theorem dX0_clear_35 : decode cX0_clear 35 = .ok (.iconst 0, 1) := by decide +kernel
theorem dX0_clear_36 : decode cX0_clear 36 = .ok (.putfield 44, 3) := by decide +kernel
theorem dX0_clear_39 : decode cX0_clear 39 = .ok (.aload_n 0, 1) := by decide +kernel
theorem dX0_clear_40 : decode cX0_clear 40 = .ok (.iconst 0, 1) := by decide +kernel
theorem dX0_clear_41 : decode cX0_clear 41 = .ok (.putfield 47, 3) := by decide +kernel
theorem dX0_clear_44 : decode cX0_clear 44 = .ok (.aload_n 0, 1) := by decide +kernel
theorem dX0_clear_45 : decode cX0_clear 45 = .ok (.iconst 0, 1) := by decide +kernel
theorem dX0_clear_46 : decode cX0_clear 46 = .ok (.putfield 50, 3) := by decide +kernel
theorem dX0_clear_49 : decode cX0_clear 49 = .ok (.return_, 1) := by decide +kernel
theorem dX0_copyFrom_0 : decode cX0_copyFrom 0 = .ok (.aload_n 1, 1) := by decide +kernel
theorem dX0_copyFrom_1 : decode cX0_copyFrom 1 = .ok (.getfield 9, 3) := by decide +kernel
theorem dX0_copyFrom_4 : decode cX0_copyFrom 4 = .ok (.iconst 0, 1) := by decide +kernel
theorem dX0_copyFrom_5 : decode cX0_copyFrom 5 = .ok (.aload_n 0, 1) := by decide +kernel
theorem dX0_copyFrom_6 : decode cX0_copyFrom 6 = .ok (.getfield 9, 3) := by decide +kernel
theorem dX0_copyFrom_9 : decode cX0_copyFrom 9 = .ok (.iconst 0, 1) := by decide +kernel
theorem dX0_copyFrom_10 : decode cX0_copyFrom 10 = .ok (.bipush 6, 2) := by decide +kernel
theorem dX0_copyFrom_12 : decode cX0_copyFrom 12 = .ok (.invokestatic 53, 3) := by decide +kernel
theorem dX0_copyFrom_15 : decode cX0_copyFrom 15 = .ok (.aload_n 1, 1) := by decide +kernel
theorem dX0_copyFrom_16 : decode cX0_copyFrom 16 = .ok (.getfield 13, 3) := by decide +kernel
theorem dX0_copyFrom_19 : decode cX0_copyFrom 19 = .ok (.iconst 0, 1) := by decide +kernel
theorem dX0_copyFrom_20 : decode cX0_copyFrom 20 = .ok (.aload_n 0, 1) := by decide +kernel
theorem dX0_copyFrom_21 : decode cX0_copyFrom 21 = .ok (.getfield 13, 3) := by decide +kernel
theorem dX0_copyFrom_24 : decode cX0_copyFrom 24 = .ok (.iconst 0, 1) := by decide +kernel
theorem dX0_copyFrom_25 : decode cX0_copyFrom 25 = .ok (.bipush 6, 2) := by decide +kernel
theorem dX0_copyFrom_27 : decode cX0_copyFrom 27 = .ok (.invokestatic 53, 3) := by decide +kernel
theorem dX0_copyFrom_30 : decode cX0_copyFrom 30 = .ok (.aload_n 1, 1) := by decide +kernel
theorem dX0_copyFrom_31 : decode cX0_copyFrom 31 = .ok (.getfield 16, 3) := by decide +kernel
theorem dX0_copyFrom_34 : decode cX0_copyFrom 34 = .ok (.iconst 0, 1) := by decide +kernel
theorem dX0_copyFrom_35 : decode cX0_copyFrom 35 = .ok (.aload_n 0, 1) := by decide +kernel
theorem dX0_copyFrom_36 : decode cX0_copyFrom 36 = .ok (.getfield 16, 3) := by decide +kernel
theorem dX0_copyFrom_39 : decode cX0_copyFrom 39 = .ok (.iconst 0, 1) := by decide +kernel
theorem dX0_copyFrom_40 : decode cX0_copyFrom 40 = .ok (.iconst 5, 1) := by decide +kernel
theorem dX0_copyFrom_41 : decode cX0_copyFrom 41 = .ok (.invokestatic 53, 3) := by decide +kernel
theorem dX0_copyFrom_44 : decode cX0_copyFrom 44 = .ok (.aload_n 1, 1) := by decide +kernel
theorem dX0_copyFrom_45 : decode cX0_copyFrom 45 = .ok (.getfield 19, 3) := by decide +kernel
theorem dX0_copyFrom_48 : decode cX0_copyFrom 48 = .ok (.iconst 0, 1) := by decide +kernel
theorem dX0_copyFrom_49 : decode cX0_copyFrom 49 = .ok (.aload_n 0, 1) := by decide +kernel
theorem dX0_copyFrom_50 : decode cX0_copyFrom 50 = .ok (.getfield 19, 3) := by decide +kernel
theorem dX0_copyFrom_53 : decode cX0_copyFrom 53 = .ok (.iconst 0, 1) := by decide +kernel
theorem dX0_copyFrom_54 : decode cX0_copyFrom 54 = .ok (.iconst 5, 1) := by decide +kernel
theorem dX0_copyFrom_55 : decode cX0_copyFrom 55 = .ok (.invokestatic 53, 3) := by decide +kernel
theorem dX0_copyFrom_58 : decode cX0_copyFrom 58 = .ok (.aload_n 1, 1) := by decide +kernel
theorem dX0_copyFrom_59 : decode cX0_copyFrom 59 = .ok (.getfield 22, 3) := by decide +kernel
theorem dX0_copyFrom_62 : decode cX0_copyFrom 62 = .ok (.iconst 0, 1) := by decide +kernel
theorem dX0_copyFrom_63 : decode cX0_copyFrom 63 = .ok (.aload_n 0, 1) := by decide +kernel
theorem dX0_copyFrom_64 : decode cX0_copyFrom 64 = .ok (.getfield 22, 3) := by decide +kernel
theorem dX0_copyFrom_67 : decode cX0_copyFrom 67 = .ok (.iconst 0, 1) := by decide +kernel
theorem dX0_copyFrom_68 : decode cX0_copyFrom 68 = .ok (.iconst 5, 1) := by decide +kernel
theorem dX0_copyFrom_69 : decode cX0_copyFrom 69 = .ok (.invokestatic 53, 3) := by decide +kernel
theorem dX0_copyFrom_72 : decode cX0_copyFrom 72 = .ok (.aload_n 1, 1) := by decide +kernel
theorem dX0_copyFrom_73 : decode cX0_copyFrom 73 = .ok (.getfield 25, 3) := by decide +kernel
theorem dX0_copyFrom_76 : decode cX0_copyFrom 76 = .ok (.iconst 0, 1) := by decide +kernel
theorem dX0_copyFrom_77 : decode cX0_copyFrom 77 = .ok (.aload_n 0, 1) := by decide +kernel
theorem dX0_copyFrom_78 : decode cX0_copyFrom 78 = .ok (.getfield 25, 3) := by decide +kernel
theorem dX0_copyFrom_81 : decode cX0_copyFrom 81 = .ok (.iconst 0, 1) := by decide +kernel
theorem dX0_copyFrom_82 : decode cX0_copyFrom 82 = .ok (.iconst 5, 1) := by decide +kernel
theorem dX0_copyFrom_83 : decode cX0_copyFrom 83 = .ok (.invokestatic 53, 3) := by decide +kernel
theorem dX0_copyFrom_86 : decode cX0_copyFrom 86 = .ok (.aload_n 1, 1) := by decide +kernel
theorem dX0_copyFrom_87 : decode cX0_copyFrom 87 = .ok (.getfield 28, 3) := by decide +kernel
theorem dX0_copyFrom_90 : decode cX0_copyFrom 90 = .ok (.iconst 0, 1) := by decide +kernel
theorem dX0_copyFrom_91 : decode cX0_copyFrom 91 = .ok (.aload_n 0, 1) := by decide +kernel
theorem dX0_copyFrom_92 : decode cX0_copyFrom 92 = .ok (.getfield 28, 3) := by decide +kernel
theorem dX0_copyFrom_95 : decode cX0_copyFrom 95 = .ok (.iconst 0, 1) := by decide +kernel
theorem dX0_copyFrom_96 : decode cX0_copyFrom 96 = .ok (.iconst 3, 1) := by decide +kernel
theorem dX0_copyFrom_97 : decode cX0_copyFrom 97 = .ok (.invokestatic 53, 3) := by decide +kernel
theorem dX0_copyFrom_100 : decode cX0_copyFrom 100 = .ok (.aload_n 1, 1) := by decide +kernel
theorem dX0_copyFrom_101 : decode cX0_copyFrom 101 = .ok (.getfield 31, 3) := by decide +kernel
theorem dX0_copyFrom_104 : decode cX0_copyFrom 104 = .ok (.iconst 0, 1) := by decide +kernel
theorem dX0_copyFrom_105 : decode cX0_copyFrom 105 = .ok (.aload_n 0, 1) := by decide +kernel
theorem dX0_copyFrom_106 : decode cX0_copyFrom 106 = .ok (.getfield 31, 3) := by decide +kernel
theorem dX0_copyFrom_109 : decode cX0_copyFrom 109 = .ok (.iconst 0, 1) := by decide +kernel
theorem dX0_copyFrom_110 : decode cX0_copyFrom 110 = .ok (.iconst 3, 1) := by decide +kernel
theorem dX0_copyFrom_111 : decode cX0_copyFrom 111 = .ok (.invokestatic 53, 3) := by decide +kernel
theorem dX0_copyFrom_114 : decode cX0_copyFrom 114 = .ok (.aload_n 1, 1) := by decide +kernel
theorem dX0_copyFrom_115 : decode cX0_copyFrom 115 = .ok (.getfield 34, 3) := by decide +kernel
theorem dX0_copyFrom_118 : decode cX0_copyFrom 118 = .ok (.iconst 0, 1) := by decide +kernel
theorem dX0_copyFrom_119 : decode cX0_copyFrom 119 = .ok (.aload_n 0, 1) := by decide +kernel
theorem dX0_copyFrom_120 : decode cX0_copyFrom 120 = .ok (.getfield 34, 3) := by decide +kernel
theorem dX0_copyFrom_123 : decode cX0_copyFrom 123 = .ok (.iconst 0, 1) := by decide +kernel
theorem dX0_copyFrom_124 : decode cX0_copyFrom 124 = .ok (.iconst 3, 1) := by decide +kernel
theorem dX0_copyFrom_125 : decode cX0_copyFrom 125 = .ok (.invokestatic 53, 3) := by decide +kernel
theorem dX0_copyFrom_128 : decode cX0_copyFrom 128 = .ok (.aload_n 0, 1) := by decide +kernel
theorem dX0_copyFrom_129 : decode cX0_copyFrom 129 = .ok (.aload_n 1, 1) := by decide +kernel
theorem dX0_copyFrom_130 : decode cX0_copyFrom 130 = .ok (.getfield 40, 3) := by decide +kernel
theorem dX0_copyFrom_133 : decode cX0_copyFrom 133 = .ok (.putfield 40, 3) := by decide +kernel
theorem dX0_copyFrom_136 : decode cX0_copyFrom 136 = .ok (.aload_n 0, 1) := by decide +kernel
theorem dX0_copyFrom_137 : decode cX0_copyFrom 137 = .ok (.aload_n 1, 1) := by decide +kernel
theorem dX0_copyFrom_138 : decode cX0_copyFrom 138 = .ok (.getfield 44, 3) := by decide +kernel
theorem dX0_copyFrom_141 : decode cX0_copyFrom 141 = .ok (.putfield 44, 3) := by decide +kernel
theorem dX0_copyFrom_144 : decode cX0_copyFrom 144 = .ok (.aload_n 0, 1) := by decide +kernel
theorem dX0_copyFrom_145 : decode cX0_copyFrom 145 = .ok (.aload_n 1, 1) := by decide +kernel
theorem dX0_copyFrom_146 : decode cX0_copyFrom 146 = .ok (.getfield 47, 3) := by decide +kernel
theorem dX0_copyFrom_149 : decode cX0_copyFrom 149 = .ok (.putfield 47, 3) := by decide +kernel
theorem dX0_copyFrom_152 : decode cX0_copyFrom 152 = .ok (.aload_n 0, 1) := by decide +kernel
theorem dX0_copyFrom_153 : decode cX0_copyFrom 153 = .ok (.aload_n 1, 1) := by decide +kernel
theorem dX0_copyFrom_154 : decode cX0_copyFrom 154 = .ok (.getfield 50, 3) := by decide +kernel
theorem dX0_copyFrom_157 : decode cX0_copyFrom 157 = .ok (.putfield 50, 3) := by decide +kernel
theorem dX0_copyFrom_160 : decode cX0_copyFrom 160 = .ok (.return_, 1) := by decide +kernel
theorem dX0_addTaker_0 : decode cX0_addTaker 0 = .ok (.aload_n 0, 1) := by decide +kernel
theorem dX0_addTaker_1 : decode cX0_addTaker 1 = .ok (.getfield 40, 3) := by decide +kernel
theorem dX0_addTaker_4 : decode cX0_addTaker 4 = .ok (.iconst 5, 1) := by decide +kernel
theorem dX0_addTaker_5 : decode cX0_addTaker 5 = .ok (.if_icmp .lt 5, 3) := by decide +kernel
theorem dX0_addTaker_8 : decode cX0_addTaker 8 = .ok (.iconst 0, 1) := by decide +kernel
theorem dX0_addTaker_9 : decode cX0_addTaker 9 = .ok (.ireturn, 1) := by decide +kernel
theorem dX0_addTaker_10 : decode cX0_addTaker 10 = .ok (.aload_n 0, 1) := by decide +kernel
theorem dX0_addTaker_11 : decode cX0_addTaker 11 = .ok (.getfield 16, 3) := by decide +kernel
theorem dX0_addTaker_14 : decode cX0_addTaker 14 = .ok (.aload_n 0, 1) := by decide +kernel
theorem dX0_addTaker_15 : decode cX0_addTaker 15 = .ok (.getfield 40, 3) := by decide +kernel
theorem dX0_addTaker_18 : decode cX0_addTaker 18 = .ok (.iload_n 1, 1) := by decide +kernel
theorem dX0_addTaker_19 : decode cX0_addTaker 19 = .ok (.iastore, 1) := by decide +kernel
theorem dX0_addTaker_20 : decode cX0_addTaker 20 = .ok (.aload_n 0, 1) := by decide +kernel
theorem dX0_addTaker_21 : decode cX0_addTaker 21 = .ok (.getfield 19, 3) := by decide +kernel
theorem dX0_addTaker_24 : decode cX0_addTaker 24 = .ok (.aload_n 0, 1) := by decide +kernel
theorem dX0_addTaker_25 : decode cX0_addTaker 25 = .ok (.getfield 40, 3) := by decide +kernel
theorem dX0_addTaker_28 : decode cX0_addTaker 28 = .ok (.iload_n 2, 1) := by decide +kernel
theorem dX0_addTaker_29 : decode cX0_addTaker 29 = .ok (.iastore, 1) := by decide +kernel
theorem dX0_addTaker_30 : decode cX0_addTaker 30 = .ok (.aload_n 0, 1) := by decide +kernel
theorem dX0_addTaker_31 : decode cX0_addTaker 31 = .ok (.getfield 22, 3) := by decide +kernel
theorem dX0_addTaker_34 : decode cX0_addTaker 34 = .ok (.aload_n 0, 1) := by decide +kernel
theorem dX0_addTaker_35 : decode cX0_addTaker 35 = .ok (.getfield 40, 3) := by decide +kernel
theorem dX0_addTaker_38 : decode cX0_addTaker 38 = .ok (.iconst 0, 1) := by decide +kernel
theorem dX0_addTaker_39 : decode cX0_addTaker 39 = .ok (.iastore, 1) := by decide +kernel
theorem dX0_addTaker_40 : decode cX0_addTaker 40 = .ok (.aload_n 0, 1) := by decide +kernel
theorem dX0_addTaker_41 : decode cX0_addTaker 41 = .ok (.getfield 25, 3) := by decide +kernel
theorem dX0_addTaker_44 : decode cX0_addTaker 44 = .ok (.aload_n 0, 1) := by decide +kernel
theorem dX0_addTaker_45 : decode cX0_addTaker 45 = .ok (.getfield 40, 3) := by decide +kernel
theorem dX0_addTaker_48 : decode cX0_addTaker 48 = .ok (.iconst 0, 1) := by decide +kernel
theorem dX0_addTaker_49 : decode cX0_addTaker 49 = .ok (.iastore, 1) := by decide +kernel
theorem dX0_addTaker_50 : decode cX0_addTaker 50 = .ok (.aload_n 0, 1) := by decide +kernel
theorem dX0_addTaker_51 : decode cX0_addTaker 51 = .ok (.dup, 1) := by decide +kernel
theorem dX0_addTaker_52 : decode cX0_addTaker 52 = .ok (.getfield 40, 3) := by decide +kernel
theorem dX0_addTaker_55 : decode cX0_addTaker 55 = .ok (.iconst 1, 1) := by decide +kernel
theorem dX0_addTaker_56 : decode cX0_addTaker 56 = .ok (.iadd, 1) := by decide +kernel
theorem dX0_addTaker_57 : decode cX0_addTaker 57 = .ok (.putfield 40, 3) := by decide +kernel
theorem dX0_addTaker_60 : decode cX0_addTaker 60 = .ok (.iconst 1, 1) := by decide +kernel
theorem dX0_addTaker_61 : decode cX0_addTaker 61 = .ok (.ireturn, 1) := by decide +kernel
theorem dX0_addKeeper_0 : decode cX0_addKeeper 0 = .ok (.aload_n 0, 1) := by decide +kernel
theorem dX0_addKeeper_1 : decode cX0_addKeeper 1 = .ok (.getfield 44, 3) := by decide +kernel
theorem dX0_addKeeper_4 : decode cX0_addKeeper 4 = .ok (.iconst 3, 1) := by decide +kernel
theorem dX0_addKeeper_5 : decode cX0_addKeeper 5 = .ok (.if_icmp .lt 5, 3) := by decide +kernel
theorem dX0_addKeeper_8 : decode cX0_addKeeper 8 = .ok (.iconst 0, 1) := by decide +kernel
theorem dX0_addKeeper_9 : decode cX0_addKeeper 9 = .ok (.ireturn, 1) := by decide +kernel
theorem dX0_addKeeper_10 : decode cX0_addKeeper 10 = .ok (.aload_n 0, 1) := by decide +kernel
theorem dX0_addKeeper_11 : decode cX0_addKeeper 11 = .ok (.getfield 28, 3) := by decide +kernel
theorem dX0_addKeeper_14 : decode cX0_addKeeper 14 = .ok (.aload_n 0, 1) := by decide +kernel
theorem dX0_addKeeper_15 : decode cX0_addKeeper 15 = .ok (.getfield 44, 3) := by decide +kernel
theorem dX0_addKeeper_18 : decode cX0_addKeeper 18 = .ok (.iload_n 1, 1) := by decide +kernel
theorem dX0_addKeeper_19 : decode cX0_addKeeper 19 = .ok (.iastore, 1) := by decide +kernel
theorem dX0_addKeeper_20 : decode cX0_addKeeper 20 = .ok (.aload_n 0, 1) := by decide +kernel
theorem dX0_addKeeper_21 : decode cX0_addKeeper 21 = .ok (.getfield 31, 3) := by decide +kernel
theorem dX0_addKeeper_24 : decode cX0_addKeeper 24 = .ok (.aload_n 0, 1) := by decide +kernel
theorem dX0_addKeeper_25 : decode cX0_addKeeper 25 = .ok (.getfield 44, 3) := by decide +kernel
theorem dX0_addKeeper_28 : decode cX0_addKeeper 28 = .ok (.iload_n 2, 1) := by decide +kernel
theorem dX0_addKeeper_29 : decode cX0_addKeeper 29 = .ok (.iastore, 1) := by decide +kernel
theorem dX0_addKeeper_30 : decode cX0_addKeeper 30 = .ok (.aload_n 0, 1) := by decide +kernel
theorem dX0_addKeeper_31 : decode cX0_addKeeper 31 = .ok (.getfield 34, 3) := by decide +kernel
theorem dX0_addKeeper_34 : decode cX0_addKeeper 34 = .ok (.aload_n 0, 1) := by decide +kernel
theorem dX0_addKeeper_35 : decode cX0_addKeeper 35 = .ok (.getfield 44, 3) := by decide +kernel
theorem dX0_addKeeper_38 : decode cX0_addKeeper 38 = .ok (.iload_n 3, 1) := by decide +kernel
theorem dX0_addKeeper_39 : decode cX0_addKeeper 39 = .ok (.iastore, 1) := by decide +kernel
theorem dX0_addKeeper_40 : decode cX0_addKeeper 40 = .ok (.aload_n 0, 1) := by decide +kernel
theorem dX0_addKeeper_41 : decode cX0_addKeeper 41 = .ok (.dup, 1) := by decide +kernel
theorem dX0_addKeeper_42 : decode cX0_addKeeper 42 = .ok (.getfield 44, 3) := by decide +kernel
theorem dX0_addKeeper_45 : decode cX0_addKeeper 45 = .ok (.iconst 1, 1) := by decide +kernel
theorem dX0_addKeeper_46 : decode cX0_addKeeper 46 = .ok (.iadd, 1) := by decide +kernel
theorem dX0_addKeeper_47 : decode cX0_addKeeper 47 = .ok (.putfield 44, 3) := by decide +kernel
theorem dX0_addKeeper_50 : decode cX0_addKeeper 50 = .ok (.iconst 1, 1) := by decide +kernel
theorem dX0_addKeeper_51 : decode cX0_addKeeper 51 = .ok (.ireturn, 1) := by decide +kernel
theorem dX0_takes_0 : decode cX0_takes 0 = .ok (.getstatic 59, 3) := by decide +kernel
theorem dX0_takes_3 : decode cX0_takes 3 = .ok (.aload_n 0, 1) := by decide +kernel
theorem dX0_takes_4 : decode cX0_takes 4 = .ok (.getfield 16, 3) := by decide +kernel
theorem dX0_takes_7 : decode cX0_takes 7 = .ok (.iload_n 1, 1) := by decide +kernel
theorem dX0_takes_8 : decode cX0_takes 8 = .ok (.iaload, 1) := by decide +kernel
theorem dX0_takes_9 : decode cX0_takes 9 = .ok (.iaload, 1) := by decide +kernel
theorem dX0_takes_10 : decode cX0_takes 10 = .ok (.ireturn, 1) := by decide +kernel
theorem dX0_noise_0 : decode cX0_noise 0 = .ok (.getstatic 62, 3) := by decide +kernel
theorem dX0_noise_3 : decode cX0_noise 3 = .ok (.aload_n 0, 1) := by decide +kernel
theorem dX0_noise_4 : decode cX0_noise 4 = .ok (.getfield 16, 3) := by decide +kernel
theorem dX0_noise_7 : decode cX0_noise 7 = .ok (.iload_n 1, 1) := by decide +kernel
theorem dX0_noise_8 : decode cX0_noise 8 = .ok (.iaload, 1) := by decide +kernel
theorem dX0_noise_9 : decode cX0_noise 9 = .ok (.iaload, 1) := by decide +kernel
theorem dX0_noise_10 : decode cX0_noise 10 = .ok (.ireturn, 1) := by decide +kernel
theorem dX0_placeOf_0 : decode cX0_placeOf 0 = .ok (.aload_n 0, 1) := by decide +kernel
theorem dX0_placeOf_1 : decode cX0_placeOf 1 = .ok (.getfield 28, 3) := by decide +kernel
theorem dX0_placeOf_4 : decode cX0_placeOf 4 = .ok (.iload_n 1, 1) := by decide +kernel
theorem dX0_placeOf_5 : decode cX0_placeOf 5 = .ok (.iaload, 1) := by decide +kernel
theorem dX0_placeOf_6 : decode cX0_placeOf 6 = .ok (.aload_n 0, 1) := by decide +kernel
theorem dX0_placeOf_7 : decode cX0_placeOf 7 = .ok (.getfield 47, 3) := by decide +kernel
theorem dX0_placeOf_10 : decode cX0_placeOf 10 = .ok (.aload_n 0, 1) := by decide +kernel
theorem dX0_placeOf_11 : decode cX0_placeOf 11 = .ok (.getfield 31, 3) := by decide +kernel
theorem dX0_placeOf_14 : decode cX0_placeOf 14 = .ok (.iload_n 1, 1) := by decide +kernel
theorem dX0_placeOf_15 : decode cX0_placeOf 15 = .ok (.iaload, 1) := by decide +kernel
theorem dX0_placeOf_16 : decode cX0_placeOf 16 = .ok (.imul, 1) := by decide +kernel
theorem dX0_placeOf_17 : decode cX0_placeOf 17 = .ok (.iadd, 1) := by decide +kernel
theorem dX0_placeOf_18 : decode cX0_placeOf 18 = .ok (.bipush 6, 2) := by decide +kernel
theorem dX0_placeOf_20 : decode cX0_placeOf 20 = .ok (.irem, 1) := by decide +kernel
theorem dX0_placeOf_21 : decode cX0_placeOf 21 = .ok (.ireturn, 1) := by decide +kernel
theorem dX0_wouldBeCaught_0 : decode cX0_wouldBeCaught 0 = .ok (.aload_n 0, 1) := by decide +kernel
theorem dX0_wouldBeCaught_1 : decode cX0_wouldBeCaught 1 = .ok (.getfield 25, 3) := by decide +kernel
theorem dX0_wouldBeCaught_4 : decode cX0_wouldBeCaught 4 = .ok (.iload_n 1, 1) := by decide +kernel
theorem dX0_wouldBeCaught_5 : decode cX0_wouldBeCaught 5 = .ok (.iaload, 1) := by decide +kernel
theorem dX0_wouldBeCaught_6 : decode cX0_wouldBeCaught 6 = .ok (.ifCond .le 5, 3) := by decide +kernel
theorem dX0_wouldBeCaught_9 : decode cX0_wouldBeCaught 9 = .ok (.iconst 0, 1) := by decide +kernel
theorem dX0_wouldBeCaught_10 : decode cX0_wouldBeCaught 10 = .ok (.ireturn, 1) := by decide +kernel
theorem dX0_wouldBeCaught_11 : decode cX0_wouldBeCaught 11 = .ok (.iconst 0, 1) := by decide +kernel
theorem dX0_wouldBeCaught_12 : decode cX0_wouldBeCaught 12 = .ok (.istore_n 2, 1) := by decide +kernel
theorem dX0_wouldBeCaught_13 : decode cX0_wouldBeCaught 13 = .ok (.iload_n 2, 1) := by decide +kernel
theorem dX0_wouldBeCaught_14 : decode cX0_wouldBeCaught 14 = .ok (.aload_n 0, 1) := by decide +kernel
theorem dX0_wouldBeCaught_15 : decode cX0_wouldBeCaught 15 = .ok (.getfield 44, 3) := by decide +kernel
theorem dX0_wouldBeCaught_18 : decode cX0_wouldBeCaught 18 = .ok (.if_icmp .ge 39, 3) := by decide +kernel
theorem dX0_wouldBeCaught_21 : decode cX0_wouldBeCaught 21 = .ok (.aload_n 0, 1) := by decide +kernel
theorem dX0_wouldBeCaught_22 : decode cX0_wouldBeCaught 22 = .ok (.iload_n 2, 1) := by decide +kernel
theorem dX0_wouldBeCaught_23 : decode cX0_wouldBeCaught 23 = .ok (.invokevirtual 65, 3) := by decide +kernel
theorem dX0_wouldBeCaught_26 : decode cX0_wouldBeCaught 26 = .ok (.aload_n 0, 1) := by decide +kernel
theorem dX0_wouldBeCaught_27 : decode cX0_wouldBeCaught 27 = .ok (.getfield 19, 3) := by decide +kernel
theorem dX0_wouldBeCaught_30 : decode cX0_wouldBeCaught 30 = .ok (.iload_n 1, 1) := by decide +kernel
theorem dX0_wouldBeCaught_31 : decode cX0_wouldBeCaught 31 = .ok (.iaload, 1) := by decide +kernel
theorem dX0_wouldBeCaught_32 : decode cX0_wouldBeCaught 32 = .ok (.if_icmp .ne 19, 3) := by decide +kernel
theorem dX0_wouldBeCaught_35 : decode cX0_wouldBeCaught 35 = .ok (.aload_n 0, 1) := by decide +kernel
theorem dX0_wouldBeCaught_36 : decode cX0_wouldBeCaught 36 = .ok (.iload_n 1, 1) := by decide +kernel
theorem dX0_wouldBeCaught_37 : decode cX0_wouldBeCaught 37 = .ok (.invokevirtual 69, 3) := by decide +kernel
theorem dX0_wouldBeCaught_40 : decode cX0_wouldBeCaught 40 = .ok (.aload_n 0, 1) := by decide +kernel
theorem dX0_wouldBeCaught_41 : decode cX0_wouldBeCaught 41 = .ok (.getfield 34, 3) := by decide +kernel
theorem dX0_wouldBeCaught_44 : decode cX0_wouldBeCaught 44 = .ok (.iload_n 2, 1) := by decide +kernel
theorem dX0_wouldBeCaught_45 : decode cX0_wouldBeCaught 45 = .ok (.iaload, 1) := by decide +kernel
theorem dX0_wouldBeCaught_46 : decode cX0_wouldBeCaught 46 = .ok (.if_icmp .lt 5, 3) := by decide +kernel
theorem dX0_wouldBeCaught_49 : decode cX0_wouldBeCaught 49 = .ok (.iconst 1, 1) := by decide +kernel
theorem dX0_wouldBeCaught_50 : decode cX0_wouldBeCaught 50 = .ok (.ireturn, 1) := by decide +kernel
theorem dX0_wouldBeCaught_51 : decode cX0_wouldBeCaught 51 = .ok (.iinc 2 1, 3) := by decide +kernel
theorem dX0_wouldBeCaught_54 : decode cX0_wouldBeCaught 54 = .ok (.goto (-41), 3) := by decide +kernel
theorem dX0_wouldBeCaught_57 : decode cX0_wouldBeCaught 57 = .ok (.iconst 0, 1) := by decide +kernel
theorem dX0_wouldBeCaught_58 : decode cX0_wouldBeCaught 58 = .ok (.ireturn, 1) := by decide +kernel
theorem dX0_passNight_0 : decode cX0_passNight 0 = .ok (.iconst 0, 1) := by decide +kernel
theorem dX0_passNight_1 : decode cX0_passNight 1 = .ok (.istore_n 2, 1) := by decide +kernel
theorem dX0_passNight_2 : decode cX0_passNight 2 = .ok (.aload_n 0, 1) := by decide +kernel
theorem dX0_passNight_3 : decode cX0_passNight 3 = .ok (.iconst 0, 1) := by decide +kernel
theorem dX0_passNight_4 : decode cX0_passNight 4 = .ok (.putfield 72, 3) := by decide +kernel
theorem dX0_passNight_7 : decode cX0_passNight 7 = .ok (.iconst 0, 1) := by decide +kernel
theorem dX0_passNight_8 : decode cX0_passNight 8 = .ok (.istore_n 3, 1) := by decide +kernel
theorem dX0_passNight_9 : decode cX0_passNight 9 = .ok (.iload_n 3, 1) := by decide +kernel
theorem dX0_passNight_10 : decode cX0_passNight 10 = .ok (.aload_n 0, 1) := by decide +kernel
theorem dX0_passNight_11 : decode cX0_passNight 11 = .ok (.getfield 40, 3) := by decide +kernel
theorem dX0_passNight_14 : decode cX0_passNight 14 = .ok (.if_icmp .ge 59, 3) := by decide +kernel
theorem dX0_passNight_17 : decode cX0_passNight 17 = .ok (.aload_n 0, 1) := by decide +kernel
theorem dX0_passNight_18 : decode cX0_passNight 18 = .ok (.getfield 25, 3) := by decide +kernel
theorem dX0_passNight_21 : decode cX0_passNight 21 = .ok (.iload_n 3, 1) := by decide +kernel
theorem dX0_passNight_22 : decode cX0_passNight 22 = .ok (.iaload, 1) := by decide +kernel
theorem dX0_passNight_23 : decode cX0_passNight 23 = .ok (.ifCond .le 16, 3) := by decide +kernel
theorem dX0_passNight_26 : decode cX0_passNight 26 = .ok (.aload_n 0, 1) := by decide +kernel
theorem dX0_passNight_27 : decode cX0_passNight 27 = .ok (.getfield 25, 3) := by decide +kernel
theorem dX0_passNight_30 : decode cX0_passNight 30 = .ok (.iload_n 3, 1) := by decide +kernel
theorem dX0_passNight_31 : decode cX0_passNight 31 = .ok (.dup2, 1) := by decide +kernel
theorem dX0_passNight_32 : decode cX0_passNight 32 = .ok (.iaload, 1) := by decide +kernel
theorem dX0_passNight_33 : decode cX0_passNight 33 = .ok (.iconst 1, 1) := by decide +kernel
theorem dX0_passNight_34 : decode cX0_passNight 34 = .ok (.isub, 1) := by decide +kernel
theorem dX0_passNight_35 : decode cX0_passNight 35 = .ok (.iastore, 1) := by decide +kernel
theorem dX0_passNight_36 : decode cX0_passNight 36 = .ok (.goto 31, 3) := by decide +kernel
theorem dX0_passNight_39 : decode cX0_passNight 39 = .ok (.iload_n 1, 1) := by decide +kernel
theorem dX0_passNight_40 : decode cX0_passNight 40 = .ok (.ifCond .ne 19, 3) := by decide +kernel
theorem dX0_passNight_43 : decode cX0_passNight 43 = .ok (.aload_n 0, 1) := by decide +kernel
theorem dX0_passNight_44 : decode cX0_passNight 44 = .ok (.iload_n 3, 1) := by decide +kernel
theorem dX0_passNight_45 : decode cX0_passNight 45 = .ok (.invokevirtual 75, 3) := by decide +kernel
theorem dX0_passNight_48 : decode cX0_passNight 48 = .ok (.ifCond .eq 11, 3) := by decide +kernel
theorem dX0_passNight_51 : decode cX0_passNight 51 = .ok (.aload_n 0, 1) := by decide +kernel
theorem dX0_passNight_52 : decode cX0_passNight 52 = .ok (.iload_n 3, 1) := by decide +kernel
theorem dX0_passNight_53 : decode cX0_passNight 53 = .ok (.invokevirtual 79, 3) := by decide +kernel
theorem dX0_passNight_56 : decode cX0_passNight 56 = .ok (.goto 11, 3) := by decide +kernel
theorem dX0_passNight_59 : decode cX0_passNight 59 = .ok (.iload_n 2, 1) := by decide +kernel
theorem dX0_passNight_60 : decode cX0_passNight 60 = .ok (.aload_n 0, 1) := by decide +kernel
theorem dX0_passNight_61 : decode cX0_passNight 61 = .ok (.iload_n 3, 1) := by decide +kernel
theorem dX0_passNight_62 : decode cX0_passNight 62 = .ok (.invokevirtual 83, 3) := by decide +kernel
theorem dX0_passNight_65 : decode cX0_passNight 65 = .ok (.iadd, 1) := by decide +kernel
theorem dX0_passNight_66 : decode cX0_passNight 66 = .ok (.istore_n 2, 1) := by decide +kernel
theorem dX0_passNight_67 : decode cX0_passNight 67 = .ok (.iinc 3 1, 3) := by decide +kernel
theorem dX0_passNight_70 : decode cX0_passNight 70 = .ok (.goto (-61), 3) := by decide +kernel
theorem dX0_passNight_73 : decode cX0_passNight 73 = .ok (.iconst 0, 1) := by decide +kernel
theorem dX0_passNight_74 : decode cX0_passNight 74 = .ok (.istore_n 3, 1) := by decide +kernel
theorem dX0_passNight_75 : decode cX0_passNight 75 = .ok (.iload_n 3, 1) := by decide +kernel
theorem dX0_passNight_76 : decode cX0_passNight 76 = .ok (.bipush 6, 2) := by decide +kernel
theorem dX0_passNight_78 : decode cX0_passNight 78 = .ok (.if_icmp .ge 33, 3) := by decide +kernel
theorem dX0_passNight_81 : decode cX0_passNight 81 = .ok (.aload_n 0, 1) := by decide +kernel
theorem dX0_passNight_82 : decode cX0_passNight 82 = .ok (.getfield 9, 3) := by decide +kernel
theorem dX0_passNight_85 : decode cX0_passNight 85 = .ok (.iload_n 3, 1) := by decide +kernel
theorem dX0_passNight_86 : decode cX0_passNight 86 = .ok (.bipush 60, 2) := by decide +kernel
theorem dX0_passNight_88 : decode cX0_passNight 88 = .ok (.aload_n 0, 1) := by decide +kernel
theorem dX0_passNight_89 : decode cX0_passNight 89 = .ok (.getfield 9, 3) := by decide +kernel
theorem dX0_passNight_92 : decode cX0_passNight 92 = .ok (.iload_n 3, 1) := by decide +kernel
theorem dX0_passNight_93 : decode cX0_passNight 93 = .ok (.iaload, 1) := by decide +kernel
theorem dX0_passNight_94 : decode cX0_passNight 94 = .ok (.aload_n 0, 1) := by decide +kernel
theorem dX0_passNight_95 : decode cX0_passNight 95 = .ok (.getfield 13, 3) := by decide +kernel
theorem dX0_passNight_98 : decode cX0_passNight 98 = .ok (.iload_n 3, 1) := by decide +kernel
theorem dX0_passNight_99 : decode cX0_passNight 99 = .ok (.iaload, 1) := by decide +kernel
theorem dX0_passNight_100 : decode cX0_passNight 100 = .ok (.iadd, 1) := by decide +kernel
theorem dX0_passNight_101 : decode cX0_passNight 101 = .ok (.invokestatic 86, 3) := by decide +kernel
theorem dX0_passNight_104 : decode cX0_passNight 104 = .ok (.iastore, 1) := by decide +kernel
theorem dX0_passNight_105 : decode cX0_passNight 105 = .ok (.iinc 3 1, 3) := by decide +kernel
theorem dX0_passNight_108 : decode cX0_passNight 108 = .ok (.goto (-33), 3) := by decide +kernel
theorem dX0_passNight_111 : decode cX0_passNight 111 = .ok (.aload_n 0, 1) := by decide +kernel
theorem dX0_passNight_112 : decode cX0_passNight 112 = .ok (.dup, 1) := by decide +kernel
theorem dX0_passNight_113 : decode cX0_passNight 113 = .ok (.getfield 47, 3) := by decide +kernel
theorem dX0_passNight_116 : decode cX0_passNight 116 = .ok (.iconst 1, 1) := by decide +kernel
theorem dX0_passNight_117 : decode cX0_passNight 117 = .ok (.iadd, 1) := by decide +kernel
theorem dX0_passNight_118 : decode cX0_passNight 118 = .ok (.putfield 47, 3) := by decide +kernel
theorem dX0_passNight_121 : decode cX0_passNight 121 = .ok (.iload_n 2, 1) := by decide +kernel
theorem dX0_passNight_122 : decode cX0_passNight 122 = .ok (.ireturn, 1) := by decide +kernel
theorem dX0_seize_0 : decode cX0_seize 0 = .ok (.aload_n 0, 1) := by decide +kernel
theorem dX0_seize_1 : decode cX0_seize 1 = .ok (.getfield 25, 3) := by decide +kernel
theorem dX0_seize_4 : decode cX0_seize 4 = .ok (.iload_n 1, 1) := by decide +kernel
theorem dX0_seize_5 : decode cX0_seize 5 = .ok (.bipush 7, 2) := by decide +kernel
theorem dX0_seize_7 : decode cX0_seize 7 = .ok (.iastore, 1) := by decide +kernel
theorem dX0_seize_8 : decode cX0_seize 8 = .ok (.aload_n 0, 1) := by decide +kernel
theorem dX0_seize_9 : decode cX0_seize 9 = .ok (.sipush 999, 3) := by decide +kernel
theorem dX0_seize_12 : decode cX0_seize 12 = .ok (.aload_n 0, 1) := by decide +kernel
theorem dX0_seize_13 : decode cX0_seize 13 = .ok (.getfield 50, 3) := by decide +kernel
theorem dX0_seize_16 : decode cX0_seize 16 = .ok (.iconst 1, 1) := by decide +kernel
theorem dX0_seize_17 : decode cX0_seize 17 = .ok (.iadd, 1) := by decide +kernel
theorem dX0_seize_18 : decode cX0_seize 18 = .ok (.invokestatic 86, 3) := by decide +kernel
theorem dX0_seize_21 : decode cX0_seize 21 = .ok (.putfield 50, 3) := by decide +kernel
theorem dX0_seize_24 : decode cX0_seize 24 = .ok (.aload_n 0, 1) := by decide +kernel
theorem dX0_seize_25 : decode cX0_seize 25 = .ok (.dup, 1) := by decide +kernel
theorem dX0_seize_26 : decode cX0_seize 26 = .ok (.getfield 72, 3) := by decide +kernel
theorem dX0_seize_29 : decode cX0_seize 29 = .ok (.iconst 1, 1) := by decide +kernel
theorem dX0_seize_30 : decode cX0_seize 30 = .ok (.iload_n 1, 1) := by decide +kernel
theorem dX0_seize_31 : decode cX0_seize 31 = .ok (.ishl, 1) := by decide +kernel
theorem dX0_seize_32 : decode cX0_seize 32 = .ok (.ior, 1) := by decide +kernel
theorem dX0_seize_33 : decode cX0_seize 33 = .ok (.putfield 72, 3) := by decide +kernel
theorem dX0_seize_36 : decode cX0_seize 36 = .ok (.return_, 1) := by decide +kernel
theorem dX0_fillBag_0 : decode cX0_fillBag 0 = .ok (.aload_n 0, 1) := by decide +kernel
theorem dX0_fillBag_1 : decode cX0_fillBag 1 = .ok (.getfield 19, 3) := by decide +kernel
theorem dX0_fillBag_4 : decode cX0_fillBag 4 = .ok (.iload_n 1, 1) := by decide +kernel
theorem dX0_fillBag_5 : decode cX0_fillBag 5 = .ok (.iaload, 1) := by decide +kernel
theorem dX0_fillBag_6 : decode cX0_fillBag 6 = .ok (.istore_n 2, 1) := by decide +kernel
theorem dX0_fillBag_7 : decode cX0_fillBag 7 = .ok (.aload_n 0, 1) := by decide +kernel
theorem dX0_fillBag_8 : decode cX0_fillBag 8 = .ok (.iload_n 1, 1) := by decide +kernel
theorem dX0_fillBag_9 : decode cX0_fillBag 9 = .ok (.invokevirtual 92, 3) := by decide +kernel
theorem dX0_fillBag_12 : decode cX0_fillBag 12 = .ok (.aload_n 0, 1) := by decide +kernel
theorem dX0_fillBag_13 : decode cX0_fillBag 13 = .ok (.getfield 9, 3) := by decide +kernel
theorem dX0_fillBag_16 : decode cX0_fillBag 16 = .ok (.iload_n 2, 1) := by decide +kernel
theorem dX0_fillBag_17 : decode cX0_fillBag 17 = .ok (.iaload, 1) := by decide +kernel
theorem dX0_fillBag_18 : decode cX0_fillBag 18 = .ok (.invokestatic 86, 3) := by decide +kernel
theorem dX0_fillBag_21 : decode cX0_fillBag 21 = .ok (.istore_n 3, 1) := by decide +kernel
theorem dX0_fillBag_22 : decode cX0_fillBag 22 = .ok (.aload_n 0, 1) := by decide +kernel
theorem dX0_fillBag_23 : decode cX0_fillBag 23 = .ok (.getfield 9, 3) := by decide +kernel
theorem dX0_fillBag_26 : decode cX0_fillBag 26 = .ok (.iload_n 2, 1) := by decide +kernel
theorem dX0_fillBag_27 : decode cX0_fillBag 27 = .ok (.dup2, 1) := by decide +kernel
theorem dX0_fillBag_28 : decode cX0_fillBag 28 = .ok (.iaload, 1) := by decide +kernel
theorem dX0_fillBag_29 : decode cX0_fillBag 29 = .ok (.iload_n 3, 1) := by decide +kernel
theorem dX0_fillBag_30 : decode cX0_fillBag 30 = .ok (.isub, 1) := by decide +kernel
theorem dX0_fillBag_31 : decode cX0_fillBag 31 = .ok (.iastore, 1) := by decide +kernel
theorem dX0_fillBag_32 : decode cX0_fillBag 32 = .ok (.aload_n 0, 1) := by decide +kernel
theorem dX0_fillBag_33 : decode cX0_fillBag 33 = .ok (.getfield 22, 3) := by decide +kernel
theorem dX0_fillBag_36 : decode cX0_fillBag 36 = .ok (.iload_n 1, 1) := by decide +kernel
theorem dX0_fillBag_37 : decode cX0_fillBag 37 = .ok (.sipush 999, 3) := by decide +kernel
theorem dX0_fillBag_40 : decode cX0_fillBag 40 = .ok (.aload_n 0, 1) := by decide +kernel
theorem dX0_fillBag_41 : decode cX0_fillBag 41 = .ok (.getfield 22, 3) := by decide +kernel
theorem dX0_fillBag_44 : decode cX0_fillBag 44 = .ok (.iload_n 1, 1) := by decide +kernel
theorem dX0_fillBag_45 : decode cX0_fillBag 45 = .ok (.iaload, 1) := by decide +kernel
theorem dX0_fillBag_46 : decode cX0_fillBag 46 = .ok (.iload_n 3, 1) := by decide +kernel
theorem dX0_fillBag_47 : decode cX0_fillBag 47 = .ok (.iadd, 1) := by decide +kernel
theorem dX0_fillBag_48 : decode cX0_fillBag 48 = .ok (.invokestatic 86, 3) := by decide +kernel
theorem dX0_fillBag_51 : decode cX0_fillBag 51 = .ok (.iastore, 1) := by decide +kernel
theorem dX0_fillBag_52 : decode cX0_fillBag 52 = .ok (.iload_n 3, 1) := by decide +kernel
theorem dX0_fillBag_53 : decode cX0_fillBag 53 = .ok (.ireturn, 1) := by decide +kernel
theorem dX0_lightOfAll_0 : decode cX0_lightOfAll 0 = .ok (.aload_n 0, 1) := by decide +kernel
theorem dX0_lightOfAll_1 : decode cX0_lightOfAll 1 = .ok (.getfield 9, 3) := by decide +kernel
theorem dX0_lightOfAll_4 : decode cX0_lightOfAll 4 = .ok (.bipush 6, 2) := by decide +kernel
theorem dX0_lightOfAll_6 : decode cX0_lightOfAll 6 = .ok (.invokestatic 95, 3) := by decide +kernel
theorem dX0_lightOfAll_9 : decode cX0_lightOfAll 9 = .ok (.ireturn, 1) := by decide +kernel
theorem dX0_growthOfAll_0 : decode cX0_growthOfAll 0 = .ok (.aload_n 0, 1) := by decide +kernel
theorem dX0_growthOfAll_1 : decode cX0_growthOfAll 1 = .ok (.getfield 13, 3) := by decide +kernel
theorem dX0_growthOfAll_4 : decode cX0_growthOfAll 4 = .ok (.bipush 6, 2) := by decide +kernel
theorem dX0_growthOfAll_6 : decode cX0_growthOfAll 6 = .ok (.invokestatic 95, 3) := by decide +kernel
theorem dX0_growthOfAll_9 : decode cX0_growthOfAll 9 = .ok (.ireturn, 1) := by decide +kernel
theorem dX0_bagsOfAll_0 : decode cX0_bagsOfAll 0 = .ok (.aload_n 0, 1) := by decide +kernel
theorem dX0_bagsOfAll_1 : decode cX0_bagsOfAll 1 = .ok (.getfield 22, 3) := by decide +kernel
theorem dX0_bagsOfAll_4 : decode cX0_bagsOfAll 4 = .ok (.aload_n 0, 1) := by decide +kernel
theorem dX0_bagsOfAll_5 : decode cX0_bagsOfAll 5 = .ok (.getfield 40, 3) := by decide +kernel
theorem dX0_bagsOfAll_8 : decode cX0_bagsOfAll 8 = .ok (.invokestatic 95, 3) := by decide +kernel
theorem dX0_bagsOfAll_11 : decode cX0_bagsOfAll 11 = .ok (.ireturn, 1) := by decide +kernel
theorem dX0_earsOfAll_0 : decode cX0_earsOfAll 0 = .ok (.aload_n 0, 1) := by decide +kernel
theorem dX0_earsOfAll_1 : decode cX0_earsOfAll 1 = .ok (.getfield 34, 3) := by decide +kernel
theorem dX0_earsOfAll_4 : decode cX0_earsOfAll 4 = .ok (.aload_n 0, 1) := by decide +kernel
theorem dX0_earsOfAll_5 : decode cX0_earsOfAll 5 = .ok (.getfield 44, 3) := by decide +kernel
theorem dX0_earsOfAll_8 : decode cX0_earsOfAll 8 = .ok (.invokestatic 95, 3) := by decide +kernel
theorem dX0_earsOfAll_11 : decode cX0_earsOfAll 11 = .ok (.ireturn, 1) := by decide +kernel
theorem dX0_sum_0 : decode cX0_sum 0 = .ok (.iconst 0, 1) := by decide +kernel
theorem dX0_sum_1 : decode cX0_sum 1 = .ok (.istore_n 2, 1) := by decide +kernel
theorem dX0_sum_2 : decode cX0_sum 2 = .ok (.iconst 0, 1) := by decide +kernel
theorem dX0_sum_3 : decode cX0_sum 3 = .ok (.istore_n 3, 1) := by decide +kernel
theorem dX0_sum_4 : decode cX0_sum 4 = .ok (.iload_n 3, 1) := by decide +kernel
theorem dX0_sum_5 : decode cX0_sum 5 = .ok (.iload_n 1, 1) := by decide +kernel
theorem dX0_sum_6 : decode cX0_sum 6 = .ok (.if_icmp .ge 21, 3) := by decide +kernel
theorem dX0_sum_9 : decode cX0_sum 9 = .ok (.iload_n 3, 1) := by decide +kernel
theorem dX0_sum_10 : decode cX0_sum 10 = .ok (.aload_n 0, 1) := by decide +kernel
theorem dX0_sum_11 : decode cX0_sum 11 = .ok (.arraylength, 1) := by decide +kernel
theorem dX0_sum_12 : decode cX0_sum 12 = .ok (.if_icmp .ge 15, 3) := by decide +kernel
theorem dX0_sum_15 : decode cX0_sum 15 = .ok (.iload_n 2, 1) := by decide +kernel
theorem dX0_sum_16 : decode cX0_sum 16 = .ok (.aload_n 0, 1) := by decide +kernel
theorem dX0_sum_17 : decode cX0_sum 17 = .ok (.iload_n 3, 1) := by decide +kernel
theorem dX0_sum_18 : decode cX0_sum 18 = .ok (.iaload, 1) := by decide +kernel
theorem dX0_sum_19 : decode cX0_sum 19 = .ok (.iadd, 1) := by decide +kernel
theorem dX0_sum_20 : decode cX0_sum 20 = .ok (.istore_n 2, 1) := by decide +kernel
theorem dX0_sum_21 : decode cX0_sum 21 = .ok (.iinc 3 1, 3) := by decide +kernel
theorem dX0_sum_24 : decode cX0_sum 24 = .ok (.goto (-20), 3) := by decide +kernel
theorem dX0_sum_27 : decode cX0_sum 27 = .ok (.iload_n 2, 1) := by decide +kernel
theorem dX0_sum_28 : decode cX0_sum 28 = .ok (.ireturn, 1) := by decide +kernel
theorem dX0_heldBits_0 : decode cX0_heldBits 0 = .ok (.iconst 0, 1) := by decide +kernel
theorem dX0_heldBits_1 : decode cX0_heldBits 1 = .ok (.istore_n 1, 1) := by decide +kernel
theorem dX0_heldBits_2 : decode cX0_heldBits 2 = .ok (.iconst 0, 1) := by decide +kernel
theorem dX0_heldBits_3 : decode cX0_heldBits 3 = .ok (.istore_n 2, 1) := by decide +kernel
theorem dX0_heldBits_4 : decode cX0_heldBits 4 = .ok (.iload_n 2, 1) := by decide +kernel
theorem dX0_heldBits_5 : decode cX0_heldBits 5 = .ok (.aload_n 0, 1) := by decide +kernel
theorem dX0_heldBits_6 : decode cX0_heldBits 6 = .ok (.getfield 40, 3) := by decide +kernel
theorem dX0_heldBits_9 : decode cX0_heldBits 9 = .ok (.if_icmp .ge 28, 3) := by decide +kernel
theorem dX0_heldBits_12 : decode cX0_heldBits 12 = .ok (.iload_n 1, 1) := by decide +kernel
theorem dX0_heldBits_13 : decode cX0_heldBits 13 = .ok (.aload_n 0, 1) := by decide +kernel
theorem dX0_heldBits_14 : decode cX0_heldBits 14 = .ok (.getfield 25, 3) := by decide +kernel
theorem dX0_heldBits_17 : decode cX0_heldBits 17 = .ok (.iload_n 2, 1) := by decide +kernel
theorem dX0_heldBits_18 : decode cX0_heldBits 18 = .ok (.iaload, 1) := by decide +kernel
theorem dX0_heldBits_19 : decode cX0_heldBits 19 = .ok (.ifCond .le 9, 3) := by decide +kernel
theorem dX0_heldBits_22 : decode cX0_heldBits 22 = .ok (.iconst 1, 1) := by decide +kernel
theorem dX0_heldBits_23 : decode cX0_heldBits 23 = .ok (.iload_n 2, 1) := by decide +kernel
theorem dX0_heldBits_24 : decode cX0_heldBits 24 = .ok (.ishl, 1) := by decide +kernel
theorem dX0_heldBits_25 : decode cX0_heldBits 25 = .ok (.goto 4, 3) := by decide +kernel
theorem dX0_heldBits_28 : decode cX0_heldBits 28 = .ok (.iconst 0, 1) := by decide +kernel
theorem dX0_heldBits_29 : decode cX0_heldBits 29 = .ok (.ior, 1) := by decide +kernel
theorem dX0_heldBits_30 : decode cX0_heldBits 30 = .ok (.istore_n 1, 1) := by decide +kernel
theorem dX0_heldBits_31 : decode cX0_heldBits 31 = .ok (.iinc 2 1, 3) := by decide +kernel
theorem dX0_heldBits_34 : decode cX0_heldBits 34 = .ok (.goto (-30), 3) := by decide +kernel
theorem dX0_heldBits_37 : decode cX0_heldBits 37 = .ok (.iload_n 1, 1) := by decide +kernel
theorem dX0_heldBits_38 : decode cX0_heldBits 38 = .ok (.ireturn, 1) := by decide +kernel
theorem dX0_nextCaughtBits_0 : decode cX0_nextCaughtBits 0 = .ok (.iconst 0, 1) := by decide +kernel
theorem dX0_nextCaughtBits_1 : decode cX0_nextCaughtBits 1 = .ok (.istore_n 1, 1) := by decide +kernel
theorem dX0_nextCaughtBits_2 : decode cX0_nextCaughtBits 2 = .ok (.iconst 0, 1) := by decide +kernel
theorem dX0_nextCaughtBits_3 : decode cX0_nextCaughtBits 3 = .ok (.istore_n 2, 1) := by decide +kernel
theorem dX0_nextCaughtBits_4 : decode cX0_nextCaughtBits 4 = .ok (.iload_n 2, 1) := by decide +kernel
theorem dX0_nextCaughtBits_5 : decode cX0_nextCaughtBits 5 = .ok (.aload_n 0, 1) := by decide +kernel
theorem dX0_nextCaughtBits_6 : decode cX0_nextCaughtBits 6 = .ok (.getfield 40, 3) := by decide +kernel
theorem dX0_nextCaughtBits_9 : decode cX0_nextCaughtBits 9 = .ok (.if_icmp .ge 27, 3) := by decide +kernel
theorem dX0_nextCaughtBits_12 : decode cX0_nextCaughtBits 12 = .ok (.iload_n 1, 1) := by decide +kernel
theorem dX0_nextCaughtBits_13 : decode cX0_nextCaughtBits 13 = .ok (.aload_n 0, 1) := by decide +kernel
theorem dX0_nextCaughtBits_14 : decode cX0_nextCaughtBits 14 = .ok (.iload_n 2, 1) := by decide +kernel
theorem dX0_nextCaughtBits_15 : decode cX0_nextCaughtBits 15 = .ok (.invokevirtual 75, 3) := by decide +kernel
theorem dX0_nextCaughtBits_18 : decode cX0_nextCaughtBits 18 = .ok (.ifCond .eq 9, 3) := by decide +kernel
theorem dX0_nextCaughtBits_21 : decode cX0_nextCaughtBits 21 = .ok (.iconst 1, 1) := by decide +kernel
theorem dX0_nextCaughtBits_22 : decode cX0_nextCaughtBits 22 = .ok (.iload_n 2, 1) := by decide +kernel
theorem dX0_nextCaughtBits_23 : decode cX0_nextCaughtBits 23 = .ok (.ishl, 1) := by decide +kernel
theorem dX0_nextCaughtBits_24 : decode cX0_nextCaughtBits 24 = .ok (.goto 4, 3) := by decide +kernel
theorem dX0_nextCaughtBits_27 : decode cX0_nextCaughtBits 27 = .ok (.iconst 0, 1) := by decide +kernel
theorem dX0_nextCaughtBits_28 : decode cX0_nextCaughtBits 28 = .ok (.ior, 1) := by decide +kernel
theorem dX0_nextCaughtBits_29 : decode cX0_nextCaughtBits 29 = .ok (.istore_n 1, 1) := by decide +kernel
theorem dX0_nextCaughtBits_30 : decode cX0_nextCaughtBits 30 = .ok (.iinc 2 1, 3) := by decide +kernel
theorem dX0_nextCaughtBits_33 : decode cX0_nextCaughtBits 33 = .ok (.goto (-29), 3) := by decide +kernel
theorem dX0_nextCaughtBits_36 : decode cX0_nextCaughtBits 36 = .ok (.iload_n 1, 1) := by decide +kernel
theorem dX0_nextCaughtBits_37 : decode cX0_nextCaughtBits 37 = .ok (.ireturn, 1) := by decide +kernel
theorem dX0_takerBitsAt_0 : decode cX0_takerBitsAt 0 = .ok (.iconst 0, 1) := by decide +kernel
theorem dX0_takerBitsAt_1 : decode cX0_takerBitsAt 1 = .ok (.istore_n 2, 1) := by decide +kernel
theorem dX0_takerBitsAt_2 : decode cX0_takerBitsAt 2 = .ok (.iconst 0, 1) := by decide +kernel
theorem dX0_takerBitsAt_3 : decode cX0_takerBitsAt 3 = .ok (.istore_n 3, 1) := by decide +kernel
theorem dX0_takerBitsAt_4 : decode cX0_takerBitsAt 4 = .ok (.iload_n 3, 1) := by decide +kernel
theorem dX0_takerBitsAt_5 : decode cX0_takerBitsAt 5 = .ok (.aload_n 0, 1) := by decide +kernel
theorem dX0_takerBitsAt_6 : decode cX0_takerBitsAt 6 = .ok (.getfield 40, 3) := by decide +kernel
theorem dX0_takerBitsAt_9 : decode cX0_takerBitsAt 9 = .ok (.if_icmp .ge 29, 3) := by decide +kernel
theorem dX0_takerBitsAt_12 : decode cX0_takerBitsAt 12 = .ok (.iload_n 2, 1) := by decide +kernel
theorem dX0_takerBitsAt_13 : decode cX0_takerBitsAt 13 = .ok (.aload_n 0, 1) := by decide +kernel
theorem dX0_takerBitsAt_14 : decode cX0_takerBitsAt 14 = .ok (.getfield 19, 3) := by decide +kernel
theorem dX0_takerBitsAt_17 : decode cX0_takerBitsAt 17 = .ok (.iload_n 3, 1) := by decide +kernel
theorem dX0_takerBitsAt_18 : decode cX0_takerBitsAt 18 = .ok (.iaload, 1) := by decide +kernel
theorem dX0_takerBitsAt_19 : decode cX0_takerBitsAt 19 = .ok (.iload_n 1, 1) := by decide +kernel
theorem dX0_takerBitsAt_20 : decode cX0_takerBitsAt 20 = .ok (.if_icmp .ne 9, 3) := by decide +kernel
theorem dX0_takerBitsAt_23 : decode cX0_takerBitsAt 23 = .ok (.iconst 1, 1) := by decide +kernel
theorem dX0_takerBitsAt_24 : decode cX0_takerBitsAt 24 = .ok (.iload_n 3, 1) := by decide +kernel
theorem dX0_takerBitsAt_25 : decode cX0_takerBitsAt 25 = .ok (.ishl, 1) := by decide +kernel
theorem dX0_takerBitsAt_26 : decode cX0_takerBitsAt 26 = .ok (.goto 4, 3) := by decide +kernel
theorem dX0_takerBitsAt_29 : decode cX0_takerBitsAt 29 = .ok (.iconst 0, 1) := by decide +kernel
theorem dX0_takerBitsAt_30 : decode cX0_takerBitsAt 30 = .ok (.ior, 1) := by decide +kernel
theorem dX0_takerBitsAt_31 : decode cX0_takerBitsAt 31 = .ok (.istore_n 2, 1) := by decide +kernel
theorem dX0_takerBitsAt_32 : decode cX0_takerBitsAt 32 = .ok (.iinc 3 1, 3) := by decide +kernel
theorem dX0_takerBitsAt_35 : decode cX0_takerBitsAt 35 = .ok (.goto (-31), 3) := by decide +kernel
theorem dX0_takerBitsAt_38 : decode cX0_takerBitsAt 38 = .ok (.iload_n 2, 1) := by decide +kernel
theorem dX0_takerBitsAt_39 : decode cX0_takerBitsAt 39 = .ok (.ireturn, 1) := by decide +kernel
theorem dX0_keeperBitsAt_0 : decode cX0_keeperBitsAt 0 = .ok (.iconst 0, 1) := by decide +kernel
theorem dX0_keeperBitsAt_1 : decode cX0_keeperBitsAt 1 = .ok (.istore_n 2, 1) := by decide +kernel
theorem dX0_keeperBitsAt_2 : decode cX0_keeperBitsAt 2 = .ok (.iconst 0, 1) := by decide +kernel
theorem dX0_keeperBitsAt_3 : decode cX0_keeperBitsAt 3 = .ok (.istore_n 3, 1) := by decide +kernel
theorem dX0_keeperBitsAt_4 : decode cX0_keeperBitsAt 4 = .ok (.iload_n 3, 1) := by decide +kernel
theorem dX0_keeperBitsAt_5 : decode cX0_keeperBitsAt 5 = .ok (.aload_n 0, 1) := by decide +kernel
theorem dX0_keeperBitsAt_6 : decode cX0_keeperBitsAt 6 = .ok (.getfield 44, 3) := by decide +kernel
theorem dX0_keeperBitsAt_9 : decode cX0_keeperBitsAt 9 = .ok (.if_icmp .ge 28, 3) := by decide +kernel
theorem dX0_keeperBitsAt_12 : decode cX0_keeperBitsAt 12 = .ok (.iload_n 2, 1) := by decide +kernel
theorem dX0_keeperBitsAt_13 : decode cX0_keeperBitsAt 13 = .ok (.aload_n 0, 1) := by decide +kernel
theorem dX0_keeperBitsAt_14 : decode cX0_keeperBitsAt 14 = .ok (.iload_n 3, 1) := by decide +kernel
theorem dX0_keeperBitsAt_15 : decode cX0_keeperBitsAt 15 = .ok (.invokevirtual 65, 3) := by decide +kernel
theorem dX0_keeperBitsAt_18 : decode cX0_keeperBitsAt 18 = .ok (.iload_n 1, 1) := by decide +kernel
theorem dX0_keeperBitsAt_19 : decode cX0_keeperBitsAt 19 = .ok (.if_icmp .ne 9, 3) := by decide +kernel
theorem dX0_keeperBitsAt_22 : decode cX0_keeperBitsAt 22 = .ok (.iconst 1, 1) := by decide +kernel
theorem dX0_keeperBitsAt_23 : decode cX0_keeperBitsAt 23 = .ok (.iload_n 3, 1) := by decide +kernel
theorem dX0_keeperBitsAt_24 : decode cX0_keeperBitsAt 24 = .ok (.ishl, 1) := by decide +kernel
theorem dX0_keeperBitsAt_25 : decode cX0_keeperBitsAt 25 = .ok (.goto 4, 3) := by decide +kernel
theorem dX0_keeperBitsAt_28 : decode cX0_keeperBitsAt 28 = .ok (.iconst 0, 1) := by decide +kernel
theorem dX0_keeperBitsAt_29 : decode cX0_keeperBitsAt 29 = .ok (.ior, 1) := by decide +kernel
theorem dX0_keeperBitsAt_30 : decode cX0_keeperBitsAt 30 = .ok (.istore_n 2, 1) := by decide +kernel
theorem dX0_keeperBitsAt_31 : decode cX0_keeperBitsAt 31 = .ok (.iinc 3 1, 3) := by decide +kernel
theorem dX0_keeperBitsAt_34 : decode cX0_keeperBitsAt 34 = .ok (.goto (-30), 3) := by decide +kernel
theorem dX0_keeperBitsAt_37 : decode cX0_keeperBitsAt 37 = .ok (.iload_n 2, 1) := by decide +kernel
theorem dX0_keeperBitsAt_38 : decode cX0_keeperBitsAt 38 = .ok (.ireturn, 1) := by decide +kernel
theorem dX1_init_0 : decode cX1_init 0 = .ok (.aload_n 0, 1) := by decide +kernel
theorem dX1_init_1 : decode cX1_init 1 = .ok (.invokespecial 5, 3) := by decide +kernel
theorem dX1_init_4 : decode cX1_init 4 = .ok (.aload_n 0, 1) := by decide +kernel
theorem dX1_init_5 : decode cX1_init 5 = .ok (.bipush 6, 2) := by decide +kernel
theorem dX1_init_7 : decode cX1_init 7 = .ok (.bipush 126, 2) := by decide +kernel
theorem dX1_init_9 : decode cX1_init 9 = .ok (.multianewarray 13 2, 4) := by decide +kernel
theorem dX1_init_13 : decode cX1_init 13 = .ok (.putfield 15, 3) := by decide +kernel
theorem dX1_init_16 : decode cX1_init 16 = .ok (.return_, 1) := by decide +kernel
theorem dX1_clear_0 : decode cX1_clear 0 = .ok (.aload_n 0, 1) := by decide +kernel
theorem dX1_clear_1 : decode cX1_clear 1 = .ok (.iconst 0, 1) := by decide +kernel
theorem dX1_clear_2 : decode cX1_clear 2 = .ok (.putfield 18, 3) := by decide +kernel
theorem dX1_clear_5 : decode cX1_clear 5 = .ok (.return_, 1) := by decide +kernel
theorem dX1_add_0 : decode cX1_add 0 = .ok (.aload_n 0, 1) := by decide +kernel
theorem dX1_add_1 : decode cX1_add 1 = .ok (.getfield 18, 3) := by decide +kernel
theorem dX1_add_4 : decode cX1_add 4 = .ok (.bipush 6, 2) := by decide +kernel
theorem dX1_add_6 : decode cX1_add 6 = .ok (.if_icmp .lt 4, 3) := by decide +kernel
theorem dX1_add_9 : decode cX1_add 9 = .ok (.return_, 1) := by decide +kernel
theorem dX1_add_10 : decode cX1_add 10 = .ok (.iconst 0, 1) := by decide +kernel
theorem dX1_add_11 : decode cX1_add 11 = .ok (.istore_n 2, 1) := by decide +kernel
theorem dX1_add_12 : decode cX1_add 12 = .ok (.iload_n 2, 1) := by decide +kernel
theorem dX1_add_13 : decode cX1_add 13 = .ok (.bipush 20, 2) := by decide +kernel
theorem dX1_add_15 : decode cX1_add 15 = .ok (.if_icmp .gt 40, 3) := by decide +kernel
theorem dX1_add_18 : decode cX1_add 18 = .ok (.aload_n 1, 1) := by decide +kernel
theorem dX1_add_19 : decode cX1_add 19 = .ok (.getfield 22, 3) := by decide +kernel
theorem dX1_add_22 : decode cX1_add 22 = .ok (.getfield 28, 3) := by decide +kernel
theorem dX1_add_25 : decode cX1_add 25 = .ok (.iconst 0, 1) := by decide +kernel
theorem dX1_add_26 : decode cX1_add 26 = .ok (.aload_n 0, 1) := by decide +kernel
theorem dX1_add_27 : decode cX1_add 27 = .ok (.getfield 15, 3) := by decide +kernel
theorem dX1_add_30 : decode cX1_add 30 = .ok (.aload_n 0, 1) := by decide +kernel
theorem dX1_add_31 : decode cX1_add 31 = .ok (.getfield 18, 3) := by decide +kernel
theorem dX1_add_34 : decode cX1_add 34 = .ok (.aaload, 1) := by decide +kernel
theorem dX1_add_35 : decode cX1_add 35 = .ok (.iload_n 2, 1) := by decide +kernel
theorem dX1_add_36 : decode cX1_add 36 = .ok (.bipush 6, 2) := by decide +kernel
theorem dX1_add_38 : decode cX1_add 38 = .ok (.imul, 1) := by decide +kernel
theorem dX1_add_39 : decode cX1_add 39 = .ok (.bipush 6, 2) := by decide +kernel
theorem dX1_add_41 : decode cX1_add 41 = .ok (.invokestatic 31, 3) := by decide +kernel
theorem dX1_add_44 : decode cX1_add 44 = .ok (.aload_n 1, 1) := by decide +kernel
theorem dX1_add_45 : decode cX1_add 45 = .ok (.iconst 0, 1) := by decide +kernel
theorem dX1_add_46 : decode cX1_add 46 = .ok (.invokevirtual 37, 3) := by decide +kernel
theorem dX1_add_49 : decode cX1_add 49 = .ok (.iinc 2 1, 3) := by decide +kernel
theorem dX1_add_52 : decode cX1_add 52 = .ok (.goto (-40), 3) := by decide +kernel
theorem dX1_add_55 : decode cX1_add 55 = .ok (.aload_n 0, 1) := by decide +kernel
theorem dX1_add_56 : decode cX1_add 56 = .ok (.dup, 1) := by decide +kernel
theorem dX1_add_57 : decode cX1_add 57 = .ok (.getfield 18, 3) := by decide +kernel
theorem dX1_add_60 : decode cX1_add 60 = .ok (.iconst 1, 1) := by decide +kernel
theorem dX1_add_61 : decode cX1_add 61 = .ok (.iadd, 1) := by decide +kernel
theorem dX1_add_62 : decode cX1_add 62 = .ok (.putfield 18, 3) := by decide +kernel
theorem dX1_add_65 : decode cX1_add 65 = .ok (.return_, 1) := by decide +kernel
theorem dX1_leftAtWorst_0 : decode cX1_leftAtWorst 0 = .ok (.iload_n 1, 1) := by decide +kernel
theorem dX1_leftAtWorst_1 : decode cX1_leftAtWorst 1 = .ok (.bipush 6, 2) := by decide +kernel
theorem dX1_leftAtWorst_3 : decode cX1_leftAtWorst 3 = .ok (.imul, 1) := by decide +kernel
theorem dX1_leftAtWorst_4 : decode cX1_leftAtWorst 4 = .ok (.iload_n 2, 1) := by decide +kernel
theorem dX1_leftAtWorst_5 : decode cX1_leftAtWorst 5 = .ok (.iadd, 1) := by decide +kernel
theorem dX1_leftAtWorst_6 : decode cX1_leftAtWorst 6 = .ok (.istore_n 3, 1) := by decide +kernel
theorem dX1_leftAtWorst_7 : decode cX1_leftAtWorst 7 = .ok (.iconst 0, 1) := by decide +kernel
theorem dX1_leftAtWorst_8 : decode cX1_leftAtWorst 8 = .ok (.istore 4, 2) := by decide +kernel
theorem dX1_leftAtWorst_10 : decode cX1_leftAtWorst 10 = .ok (.iconst 0, 1) := by decide +kernel
theorem dX1_leftAtWorst_11 : decode cX1_leftAtWorst 11 = .ok (.istore 5, 2) := by decide +kernel
theorem dX1_leftAtWorst_13 : decode cX1_leftAtWorst 13 = .ok (.iload 5, 2) := by decide +kernel
theorem dX1_leftAtWorst_15 : decode cX1_leftAtWorst 15 = .ok (.aload_n 0, 1) := by decide +kernel
theorem dX1_leftAtWorst_16 : decode cX1_leftAtWorst 16 = .ok (.getfield 18, 3) := by decide +kernel
theorem dX1_leftAtWorst_19 : decode cX1_leftAtWorst 19 = .ok (.if_icmp .ge 70, 3) := by decide +kernel
theorem dX1_leftAtWorst_22 : decode cX1_leftAtWorst 22 = .ok (.iconst 0, 1) := by decide +kernel
theorem dX1_leftAtWorst_23 : decode cX1_leftAtWorst 23 = .ok (.istore 6, 2) := by decide +kernel
theorem dX1_leftAtWorst_25 : decode cX1_leftAtWorst 25 = .ok (.iconst 0, 1) := by decide +kernel
theorem dX1_leftAtWorst_26 : decode cX1_leftAtWorst 26 = .ok (.istore 7, 2) := by decide +kernel
theorem dX1_leftAtWorst_28 : decode cX1_leftAtWorst 28 = .ok (.iload 7, 2) := by decide +kernel
theorem dX1_leftAtWorst_30 : decode cX1_leftAtWorst 30 = .ok (.aload_n 0, 1) := by decide +kernel
theorem dX1_leftAtWorst_31 : decode cX1_leftAtWorst 31 = .ok (.getfield 18, 3) := by decide +kernel
theorem dX1_leftAtWorst_34 : decode cX1_leftAtWorst 34 = .ok (.if_icmp .ge 40, 3) := by decide +kernel
theorem dX1_leftAtWorst_37 : decode cX1_leftAtWorst 37 = .ok (.iload 6, 2) := by decide +kernel
theorem dX1_leftAtWorst_39 : decode cX1_leftAtWorst 39 = .ok (.aload_n 0, 1) := by decide +kernel
theorem dX1_leftAtWorst_40 : decode cX1_leftAtWorst 40 = .ok (.getfield 15, 3) := by decide +kernel
theorem dX1_leftAtWorst_43 : decode cX1_leftAtWorst 43 = .ok (.iload 5, 2) := by decide +kernel
theorem dX1_leftAtWorst_45 : decode cX1_leftAtWorst 45 = .ok (.aaload, 1) := by decide +kernel
theorem dX1_leftAtWorst_46 : decode cX1_leftAtWorst 46 = .ok (.iload_n 3, 1) := by decide +kernel
theorem dX1_leftAtWorst_47 : decode cX1_leftAtWorst 47 = .ok (.iaload, 1) := by decide +kernel
theorem dX1_leftAtWorst_48 : decode cX1_leftAtWorst 48 = .ok (.aload_n 0, 1) := by decide +kernel
theorem dX1_leftAtWorst_49 : decode cX1_leftAtWorst 49 = .ok (.getfield 15, 3) := by decide +kernel
theorem dX1_leftAtWorst_52 : decode cX1_leftAtWorst 52 = .ok (.iload 7, 2) := by decide +kernel
theorem dX1_leftAtWorst_54 : decode cX1_leftAtWorst 54 = .ok (.aaload, 1) := by decide +kernel
theorem dX1_leftAtWorst_55 : decode cX1_leftAtWorst 55 = .ok (.iload_n 3, 1) := by decide +kernel
theorem dX1_leftAtWorst_56 : decode cX1_leftAtWorst 56 = .ok (.iaload, 1) := by decide +kernel
theorem dX1_leftAtWorst_57 : decode cX1_leftAtWorst 57 = .ok (.if_icmp .ne 7, 3) := by decide +kernel
theorem dX1_leftAtWorst_60 : decode cX1_leftAtWorst 60 = .ok (.iconst 1, 1) := by decide +kernel
theorem dX1_leftAtWorst_61 : decode cX1_leftAtWorst 61 = .ok (.goto 4, 3) := by decide +kernel
theorem dX1_leftAtWorst_64 : decode cX1_leftAtWorst 64 = .ok (.iconst 0, 1) := by decide +kernel
theorem dX1_leftAtWorst_65 : decode cX1_leftAtWorst 65 = .ok (.iadd, 1) := by decide +kernel
theorem dX1_leftAtWorst_66 : decode cX1_leftAtWorst 66 = .ok (.istore 6, 2) := by decide +kernel
theorem dX1_leftAtWorst_68 : decode cX1_leftAtWorst 68 = .ok (.iinc 7 1, 3) := by decide +kernel
theorem dX1_leftAtWorst_71 : decode cX1_leftAtWorst 71 = .ok (.goto (-43), 3) := by decide +kernel
theorem dX1_leftAtWorst_74 : decode cX1_leftAtWorst 74 = .ok (.iload 4, 2) := by decide +kernel
theorem dX1_leftAtWorst_76 : decode cX1_leftAtWorst 76 = .ok (.iload 6, 2) := by decide +kernel
theorem dX1_leftAtWorst_78 : decode cX1_leftAtWorst 78 = .ok (.invokestatic 41, 3) := by decide +kernel
theorem dX1_leftAtWorst_81 : decode cX1_leftAtWorst 81 = .ok (.istore 4, 2) := by decide +kernel
theorem dX1_leftAtWorst_83 : decode cX1_leftAtWorst 83 = .ok (.iinc 5 1, 3) := by decide +kernel
theorem dX1_leftAtWorst_86 : decode cX1_leftAtWorst 86 = .ok (.goto (-73), 3) := by decide +kernel
theorem dX1_leftAtWorst_89 : decode cX1_leftAtWorst 89 = .ok (.iload 4, 2) := by decide +kernel
theorem dX1_leftAtWorst_91 : decode cX1_leftAtWorst 91 = .ok (.ireturn, 1) := by decide +kernel
theorem dX2_init_0 : decode cX2_init 0 = .ok (.aload_n 0, 1) := by decide +kernel
theorem dX2_init_1 : decode cX2_init 1 = .ok (.invokespecial 1, 3) := by decide +kernel
theorem dX2_init_4 : decode cX2_init 4 = .ok (.aload_n 0, 1) := by decide +kernel
theorem dX2_init_5 : decode cX2_init 5 = .ok (.bipush 40, 2) := by decide +kernel
theorem dX2_init_7 : decode cX2_init 7 = .ok (.newarray .int, 2) := by decide +kernel
theorem dX2_init_9 : decode cX2_init 9 = .ok (.putfield 9, 3) := by decide +kernel
theorem dX2_init_12 : decode cX2_init 12 = .ok (.aload_n 0, 1) := by decide +kernel
theorem dX2_init_13 : decode cX2_init 13 = .ok (.iconst (-1), 1) := by decide +kernel
theorem dX2_init_14 : decode cX2_init 14 = .ok (.putfield 13, 3) := by decide +kernel
theorem dX2_init_17 : decode cX2_init 17 = .ok (.return_, 1) := by decide +kernel
theorem dX2_isNothing_0 : decode cX2_isNothing 0 = .ok (.aload_n 0, 1) := by decide +kernel
theorem dX2_isNothing_1 : decode cX2_isNothing 1 = .ok (.getfield 13, 3) := by decide +kernel
theorem dX2_isNothing_4 : decode cX2_isNothing 4 = .ok (.iconst (-1), 1) := by decide +kernel
theorem dX2_isNothing_5 : decode cX2_isNothing 5 = .ok (.if_icmp .ne 7, 3) := by decide +kernel
theorem dX2_isNothing_8 : decode cX2_isNothing 8 = .ok (.iconst 1, 1) := by decide +kernel
theorem dX2_isNothing_9 : decode cX2_isNothing 9 = .ok (.goto 4, 3) := by decide +kernel
theorem dX2_isNothing_12 : decode cX2_isNothing 12 = .ok (.iconst 0, 1) := by decide +kernel
theorem dX2_isNothing_13 : decode cX2_isNothing 13 = .ok (.ireturn, 1) := by decide +kernel
theorem dX2_renew_0 : decode cX2_renew 0 = .ok (.aload_n 0, 1) := by decide +kernel
theorem dX2_renew_1 : decode cX2_renew 1 = .ok (.iload_n 1, 1) := by decide +kernel
theorem dX2_renew_2 : decode cX2_renew 2 = .ok (.putfield 13, 3) := by decide +kernel
theorem dX2_renew_5 : decode cX2_renew 5 = .ok (.aload_n 0, 1) := by decide +kernel
theorem dX2_renew_6 : decode cX2_renew 6 = .ok (.iload_n 2, 1) := by decide +kernel
theorem dX2_renew_7 : decode cX2_renew 7 = .ok (.putfield 17, 3) := by decide +kernel
theorem dX2_renew_10 : decode cX2_renew 10 = .ok (.iconst 0, 1) := by decide +kernel
theorem dX2_renew_11 : decode cX2_renew 11 = .ok (.istore_n 3, 1) := by decide +kernel
theorem dX2_renew_12 : decode cX2_renew 12 = .ok (.iload_n 3, 1) := by decide +kernel
theorem dX2_renew_13 : decode cX2_renew 13 = .ok (.bipush 40, 2) := by decide +kernel
theorem dX2_renew_15 : decode cX2_renew 15 = .ok (.if_icmp .ge 16, 3) := by decide +kernel
theorem dX2_renew_18 : decode cX2_renew 18 = .ok (.aload_n 0, 1) := by decide +kernel
theorem dX2_renew_19 : decode cX2_renew 19 = .ok (.getfield 9, 3) := by decide +kernel
theorem dX2_renew_22 : decode cX2_renew 22 = .ok (.iload_n 3, 1) := by decide +kernel
theorem dX2_renew_23 : decode cX2_renew 23 = .ok (.iconst 0, 1) := by decide +kernel
theorem dX2_renew_24 : decode cX2_renew 24 = .ok (.iastore, 1) := by decide +kernel
theorem dX2_renew_25 : decode cX2_renew 25 = .ok (.iinc 3 1, 3) := by decide +kernel
theorem dX2_renew_28 : decode cX2_renew 28 = .ok (.goto (-16), 3) := by decide +kernel
theorem dX2_renew_31 : decode cX2_renew 31 = .ok (.return_, 1) := by decide +kernel
theorem dX2_lacks_0 : decode cX2_lacks 0 = .ok (.iload_n 1, 1) := by decide +kernel
theorem dX2_lacks_1 : decode cX2_lacks 1 = .ok (.ifCond .lt 11, 3) := by decide +kernel
theorem dX2_lacks_4 : decode cX2_lacks 4 = .ok (.iload_n 1, 1) := by decide +kernel
theorem dX2_lacks_5 : decode cX2_lacks 5 = .ok (.aload_n 0, 1) := by decide +kernel
theorem dX2_lacks_6 : decode cX2_lacks 6 = .ok (.getfield 17, 3) := by decide +kernel
theorem dX2_lacks_9 : decode cX2_lacks 9 = .ok (.if_icmp .lt 7, 3) := by decide +kernel
theorem dX2_lacks_12 : decode cX2_lacks 12 = .ok (.iconst 1, 1) := by decide +kernel
theorem dX2_lacks_13 : decode cX2_lacks 13 = .ok (.goto 4, 3) := by decide +kernel
theorem dX2_lacks_16 : decode cX2_lacks 16 = .ok (.iconst 0, 1) := by decide +kernel
theorem dX2_lacks_17 : decode cX2_lacks 17 = .ok (.ireturn, 1) := by decide +kernel
theorem dX2_put_0 : decode cX2_put 0 = .ok (.aload_n 0, 1) := by decide +kernel
theorem dX2_put_1 : decode cX2_put 1 = .ok (.iload_n 1, 1) := by decide +kernel
theorem dX2_put_2 : decode cX2_put 2 = .ok (.invokevirtual 20, 3) := by decide +kernel
theorem dX2_put_5 : decode cX2_put 5 = .ok (.ifCond .eq 5, 3) := by decide +kernel
theorem dX2_put_8 : decode cX2_put 8 = .ok (.iconst 0, 1) := by decide +kernel
theorem dX2_put_9 : decode cX2_put 9 = .ok (.ireturn, 1) := by decide +kernel
theorem dX2_put_10 : decode cX2_put 10 = .ok (.aload_n 0, 1) := by decide +kernel
theorem dX2_put_11 : decode cX2_put 11 = .ok (.getfield 9, 3) := by decide +kernel
theorem dX2_put_14 : decode cX2_put 14 = .ok (.iload_n 1, 1) := by decide +kernel
theorem dX2_put_15 : decode cX2_put 15 = .ok (.aload_n 0, 1) := by decide +kernel
theorem dX2_put_16 : decode cX2_put 16 = .ok (.getfield 13, 3) := by decide +kernel
theorem dX2_put_19 : decode cX2_put 19 = .ok (.ifCond .ne 8, 3) := by decide +kernel
theorem dX2_put_22 : decode cX2_put 22 = .ok (.iload_n 2, 1) := by decide +kernel
theorem dX2_put_23 : decode cX2_put 23 = .ok (.i2b, 1) := by decide +kernel
theorem dX2_put_24 : decode cX2_put 24 = .ok (.goto 17, 3) := by decide +kernel
theorem dX2_put_27 : decode cX2_put 27 = .ok (.aload_n 0, 1) := by decide +kernel
theorem dX2_put_28 : decode cX2_put 28 = .ok (.getfield 13, 3) := by decide +kernel
theorem dX2_put_31 : decode cX2_put 31 = .ok (.iconst 1, 1) := by decide +kernel
theorem dX2_put_32 : decode cX2_put 32 = .ok (.if_icmp .ne 8, 3) := by decide +kernel
theorem dX2_put_35 : decode cX2_put 35 = .ok (.iload_n 2, 1) := by decide +kernel
theorem dX2_put_36 : decode cX2_put 36 = .ok (.i2s, 1) := by decide +kernel
theorem dX2_put_37 : decode cX2_put 37 = .ok (.goto 4, 3) := by decide +kernel
theorem dX2_put_40 : decode cX2_put 40 = .ok (.iload_n 2, 1) := by decide +kernel
theorem dX2_put_41 : decode cX2_put 41 = .ok (.iastore, 1) := by decide +kernel
theorem dX2_put_42 : decode cX2_put 42 = .ok (.iconst 1, 1) := by decide +kernel
theorem dX2_put_43 : decode cX2_put 43 = .ok (.ireturn, 1) := by decide +kernel
theorem dX2_faultAs_0 : decode cX2_faultAs 0 = .ok (.aload_n 0, 1) := by decide +kernel
theorem dX2_faultAs_1 : decode cX2_faultAs 1 = .ok (.invokevirtual 24, 3) := by decide +kernel
theorem dX2_faultAs_4 : decode cX2_faultAs 4 = .ok (.ifCond .eq 5, 3) := by decide +kernel
theorem dX2_faultAs_7 : decode cX2_faultAs 7 = .ok (.iconst 1, 1) := by decide +kernel
theorem dX2_faultAs_8 : decode cX2_faultAs 8 = .ok (.ireturn, 1) := by decide +kernel
theorem dX2_faultAs_9 : decode cX2_faultAs 9 = .ok (.aload_n 0, 1) := by decide +kernel
theorem dX2_faultAs_10 : decode cX2_faultAs 10 = .ok (.getfield 13, 3) := by decide +kernel
theorem dX2_faultAs_13 : decode cX2_faultAs 13 = .ok (.iload_n 1, 1) := by decide +kernel
theorem dX2_faultAs_14 : decode cX2_faultAs 14 = .ok (.if_icmp .ne 7, 3) := by decide +kernel
theorem dX2_faultAs_17 : decode cX2_faultAs 17 = .ok (.iconst 0, 1) := by decide +kernel
theorem dX2_faultAs_18 : decode cX2_faultAs 18 = .ok (.goto 4, 3) := by decide +kernel
theorem dX2_faultAs_21 : decode cX2_faultAs 21 = .ok (.iconst 3, 1) := by decide +kernel
theorem dX2_faultAs_22 : decode cX2_faultAs 22 = .ok (.ireturn, 1) := by decide +kernel
theorem dX3_init_0 : decode cX3_init 0 = .ok (.aload_n 0, 1) := by decide +kernel
theorem dX3_init_1 : decode cX3_init 1 = .ok (.invokespecial 1, 3) := by decide +kernel
theorem dX3_init_4 : decode cX3_init 4 = .ok (.aload_n 0, 1) := by decide +kernel
theorem dX3_init_5 : decode cX3_init 5 = .ok (.bipush 6, 2) := by decide +kernel
theorem dX3_init_7 : decode cX3_init 7 = .ok (.newarray .int, 2) := by decide +kernel
theorem dX3_init_9 : decode cX3_init 9 = .ok (.putfield 9, 3) := by decide +kernel
theorem dX3_init_12 : decode cX3_init 12 = .ok (.aload_n 0, 1) := by decide +kernel
theorem dX3_init_13 : decode cX3_init 13 = .ok (.bipush 6, 2) := by decide +kernel
theorem dX3_init_15 : decode cX3_init 15 = .ok (.newarray .int, 2) := by decide +kernel
theorem dX3_init_17 : decode cX3_init 17 = .ok (.putfield 13, 3) := by decide +kernel
theorem dX3_init_20 : decode cX3_init 20 = .ok (.aload_n 0, 1) := by decide +kernel
theorem dX3_init_21 : decode cX3_init 21 = .ok (.bipush 6, 2) := by decide +kernel
theorem dX3_init_23 : decode cX3_init 23 = .ok (.newarray .int, 2) := by decide +kernel
theorem dX3_init_25 : decode cX3_init 25 = .ok (.putfield 16, 3) := by decide +kernel
theorem dX3_init_28 : decode cX3_init 28 = .ok (.return_, 1) := by decide +kernel
theorem dX3_add_0 : decode cX3_add 0 = .ok (.aload_n 0, 1) := by decide +kernel
theorem dX3_add_1 : decode cX3_add 1 = .ok (.getfield 19, 3) := by decide +kernel
theorem dX3_add_4 : decode cX3_add 4 = .ok (.bipush 6, 2) := by decide +kernel
theorem dX3_add_6 : decode cX3_add 6 = .ok (.if_icmp .lt 5, 3) := by decide +kernel
theorem dX3_add_9 : decode cX3_add 9 = .ok (.iconst 0, 1) := by decide +kernel
theorem dX3_add_10 : decode cX3_add 10 = .ok (.ireturn, 1) := by decide +kernel
theorem dX3_add_11 : decode cX3_add 11 = .ok (.aload_n 0, 1) := by decide +kernel
theorem dX3_add_12 : decode cX3_add 12 = .ok (.getfield 9, 3) := by decide +kernel
theorem dX3_add_15 : decode cX3_add 15 = .ok (.aload_n 0, 1) := by decide +kernel
theorem dX3_add_16 : decode cX3_add 16 = .ok (.getfield 19, 3) := by decide +kernel
theorem dX3_add_19 : decode cX3_add 19 = .ok (.iload_n 1, 1) := by decide +kernel
theorem dX3_add_20 : decode cX3_add 20 = .ok (.iastore, 1) := by decide +kernel
theorem dX3_add_21 : decode cX3_add 21 = .ok (.aload_n 0, 1) := by decide +kernel
theorem dX3_add_22 : decode cX3_add 22 = .ok (.getfield 13, 3) := by decide +kernel
theorem dX3_add_25 : decode cX3_add 25 = .ok (.aload_n 0, 1) := by decide +kernel
theorem dX3_add_26 : decode cX3_add 26 = .ok (.getfield 19, 3) := by decide +kernel
theorem dX3_add_29 : decode cX3_add 29 = .ok (.iload_n 2, 1) := by decide +kernel
theorem dX3_add_30 : decode cX3_add 30 = .ok (.iastore, 1) := by decide +kernel
theorem dX3_add_31 : decode cX3_add 31 = .ok (.aload_n 0, 1) := by decide +kernel
theorem dX3_add_32 : decode cX3_add 32 = .ok (.getfield 16, 3) := by decide +kernel
theorem dX3_add_35 : decode cX3_add 35 = .ok (.aload_n 0, 1) := by decide +kernel
theorem dX3_add_36 : decode cX3_add 36 = .ok (.getfield 19, 3) := by decide +kernel
theorem dX3_add_39 : decode cX3_add 39 = .ok (.iload_n 3, 1) := by decide +kernel
theorem dX3_add_40 : decode cX3_add 40 = .ok (.iastore, 1) := by decide +kernel
theorem dX3_add_41 : decode cX3_add 41 = .ok (.aload_n 0, 1) := by decide +kernel
theorem dX3_add_42 : decode cX3_add 42 = .ok (.dup, 1) := by decide +kernel
theorem dX3_add_43 : decode cX3_add 43 = .ok (.getfield 19, 3) := by decide +kernel
theorem dX3_add_46 : decode cX3_add 46 = .ok (.iconst 1, 1) := by decide +kernel
theorem dX3_add_47 : decode cX3_add 47 = .ok (.iadd, 1) := by decide +kernel
theorem dX3_add_48 : decode cX3_add 48 = .ok (.putfield 19, 3) := by decide +kernel
theorem dX3_add_51 : decode cX3_add 51 = .ok (.iconst 1, 1) := by decide +kernel
theorem dX3_add_52 : decode cX3_add 52 = .ok (.ireturn, 1) := by decide +kernel
theorem dX3_fit_0 : decode cX3_fit 0 = .ok (.aload_n 0, 1) := by decide +kernel
theorem dX3_fit_1 : decode cX3_fit 1 = .ok (.invokevirtual 23, 3) := by decide +kernel
theorem dX3_fit_4 : decode cX3_fit 4 = .ok (.istore_n 2, 1) := by decide +kernel
theorem dX3_fit_5 : decode cX3_fit 5 = .ok (.iconst 0, 1) := by decide +kernel
theorem dX3_fit_6 : decode cX3_fit 6 = .ok (.istore_n 3, 1) := by decide +kernel
theorem dX3_fit_7 : decode cX3_fit 7 = .ok (.iload_n 3, 1) := by decide +kernel
theorem dX3_fit_8 : decode cX3_fit 8 = .ok (.iload_n 2, 1) := by decide +kernel
theorem dX3_fit_9 : decode cX3_fit 9 = .ok (.if_icmp .gt 28, 3) := by decide +kernel
theorem dX3_fit_12 : decode cX3_fit 12 = .ok (.aload_n 0, 1) := by decide +kernel
theorem dX3_fit_13 : decode cX3_fit 13 = .ok (.iload_n 3, 1) := by decide +kernel
theorem dX3_fit_14 : decode cX3_fit 14 = .ok (.aload_n 1, 1) := by decide +kernel
theorem dX3_fit_15 : decode cX3_fit 15 = .ok (.getfield 27, 3) := by decide +kernel
theorem dX3_fit_18 : decode cX3_fit 18 = .ok (.invokevirtual 33, 3) := by decide +kernel
theorem dX3_fit_21 : decode cX3_fit 21 = .ok (.ifCond .ne 5, 3) := by decide +kernel
theorem dX3_fit_24 : decode cX3_fit 24 = .ok (.iconst 0, 1) := by decide +kernel
theorem dX3_fit_25 : decode cX3_fit 25 = .ok (.ireturn, 1) := by decide +kernel
theorem dX3_fit_26 : decode cX3_fit 26 = .ok (.aload_n 1, 1) := by decide +kernel
theorem dX3_fit_27 : decode cX3_fit 27 = .ok (.iconst 0, 1) := by decide +kernel
theorem dX3_fit_28 : decode cX3_fit 28 = .ok (.invokevirtual 37, 3) := by decide +kernel
theorem dX3_fit_31 : decode cX3_fit 31 = .ok (.iinc 3 1, 3) := by decide +kernel
theorem dX3_fit_34 : decode cX3_fit 34 = .ok (.goto (-27), 3) := by decide +kernel
theorem dX3_fit_37 : decode cX3_fit 37 = .ok (.iconst 1, 1) := by decide +kernel
theorem dX3_fit_38 : decode cX3_fit 38 = .ok (.ireturn, 1) := by decide +kernel
theorem dX3_latestNight_0 : decode cX3_latestNight 0 = .ok (.iconst (-1), 1) := by decide +kernel
theorem dX3_latestNight_1 : decode cX3_latestNight 1 = .ok (.istore_n 1, 1) := by decide +kernel
theorem dX3_latestNight_2 : decode cX3_latestNight 2 = .ok (.iconst 0, 1) := by decide +kernel
theorem dX3_latestNight_3 : decode cX3_latestNight 3 = .ok (.istore_n 2, 1) := by decide +kernel
theorem dX3_latestNight_4 : decode cX3_latestNight 4 = .ok (.iload_n 2, 1) := by decide +kernel
theorem dX3_latestNight_5 : decode cX3_latestNight 5 = .ok (.aload_n 0, 1) := by decide +kernel
theorem dX3_latestNight_6 : decode cX3_latestNight 6 = .ok (.getfield 19, 3) := by decide +kernel
theorem dX3_latestNight_9 : decode cX3_latestNight 9 = .ok (.if_icmp .ge 20, 3) := by decide +kernel
theorem dX3_latestNight_12 : decode cX3_latestNight 12 = .ok (.iload_n 1, 1) := by decide +kernel
theorem dX3_latestNight_13 : decode cX3_latestNight 13 = .ok (.aload_n 0, 1) := by decide +kernel
theorem dX3_latestNight_14 : decode cX3_latestNight 14 = .ok (.getfield 9, 3) := by decide +kernel
theorem dX3_latestNight_17 : decode cX3_latestNight 17 = .ok (.iload_n 2, 1) := by decide +kernel
theorem dX3_latestNight_18 : decode cX3_latestNight 18 = .ok (.iaload, 1) := by decide +kernel
theorem dX3_latestNight_19 : decode cX3_latestNight 19 = .ok (.invokestatic 41, 3) := by decide +kernel
theorem dX3_latestNight_22 : decode cX3_latestNight 22 = .ok (.istore_n 1, 1) := by decide +kernel
theorem dX3_latestNight_23 : decode cX3_latestNight 23 = .ok (.iinc 2 1, 3) := by decide +kernel
theorem dX3_latestNight_26 : decode cX3_latestNight 26 = .ok (.goto (-22), 3) := by decide +kernel
theorem dX3_latestNight_29 : decode cX3_latestNight 29 = .ok (.iload_n 1, 1) := by decide +kernel
theorem dX3_latestNight_30 : decode cX3_latestNight 30 = .ok (.ireturn, 1) := by decide +kernel
theorem dX3_fitBehind_0 : decode cX3_fitBehind 0 = .ok (.iconst 0, 1) := by decide +kernel
theorem dX3_fitBehind_1 : decode cX3_fitBehind 1 = .ok (.istore_n 3, 1) := by decide +kernel
theorem dX3_fitBehind_2 : decode cX3_fitBehind 2 = .ok (.iload_n 3, 1) := by decide +kernel
theorem dX3_fitBehind_3 : decode cX3_fitBehind 3 = .ok (.aload_n 0, 1) := by decide +kernel
theorem dX3_fitBehind_4 : decode cX3_fitBehind 4 = .ok (.getfield 19, 3) := by decide +kernel
theorem dX3_fitBehind_7 : decode cX3_fitBehind 7 = .ok (.if_icmp .ge 41, 3) := by decide +kernel
theorem dX3_fitBehind_10 : decode cX3_fitBehind 10 = .ok (.aload_n 0, 1) := by decide +kernel
theorem dX3_fitBehind_11 : decode cX3_fitBehind 11 = .ok (.getfield 9, 3) := by decide +kernel
theorem dX3_fitBehind_14 : decode cX3_fitBehind 14 = .ok (.iload_n 3, 1) := by decide +kernel
theorem dX3_fitBehind_15 : decode cX3_fitBehind 15 = .ok (.iaload, 1) := by decide +kernel
theorem dX3_fitBehind_16 : decode cX3_fitBehind 16 = .ok (.iload_n 1, 1) := by decide +kernel
theorem dX3_fitBehind_17 : decode cX3_fitBehind 17 = .ok (.if_icmp .ne 25, 3) := by decide +kernel
theorem dX3_fitBehind_20 : decode cX3_fitBehind 20 = .ok (.aload_n 2, 1) := by decide +kernel
theorem dX3_fitBehind_21 : decode cX3_fitBehind 21 = .ok (.getfield 47, 3) := by decide +kernel
theorem dX3_fitBehind_24 : decode cX3_fitBehind 24 = .ok (.aload_n 0, 1) := by decide +kernel
theorem dX3_fitBehind_25 : decode cX3_fitBehind 25 = .ok (.getfield 13, 3) := by decide +kernel
theorem dX3_fitBehind_28 : decode cX3_fitBehind 28 = .ok (.iload_n 3, 1) := by decide +kernel
theorem dX3_fitBehind_29 : decode cX3_fitBehind 29 = .ok (.iaload, 1) := by decide +kernel
theorem dX3_fitBehind_30 : decode cX3_fitBehind 30 = .ok (.iaload, 1) := by decide +kernel
theorem dX3_fitBehind_31 : decode cX3_fitBehind 31 = .ok (.aload_n 0, 1) := by decide +kernel
theorem dX3_fitBehind_32 : decode cX3_fitBehind 32 = .ok (.getfield 16, 3) := by decide +kernel
theorem dX3_fitBehind_35 : decode cX3_fitBehind 35 = .ok (.iload_n 3, 1) := by decide +kernel
theorem dX3_fitBehind_36 : decode cX3_fitBehind 36 = .ok (.iaload, 1) := by decide +kernel
theorem dX3_fitBehind_37 : decode cX3_fitBehind 37 = .ok (.if_icmp .eq 5, 3) := by decide +kernel
theorem dX3_fitBehind_40 : decode cX3_fitBehind 40 = .ok (.iconst 0, 1) := by decide +kernel
theorem dX3_fitBehind_41 : decode cX3_fitBehind 41 = .ok (.ireturn, 1) := by decide +kernel
theorem dX3_fitBehind_42 : decode cX3_fitBehind 42 = .ok (.iinc 3 1, 3) := by decide +kernel
theorem dX3_fitBehind_45 : decode cX3_fitBehind 45 = .ok (.goto (-43), 3) := by decide +kernel
theorem dX3_fitBehind_48 : decode cX3_fitBehind 48 = .ok (.iconst 1, 1) := by decide +kernel
theorem dX3_fitBehind_49 : decode cX3_fitBehind 49 = .ok (.ireturn, 1) := by decide +kernel
theorem dX4_init_0 : decode cX4_init 0 = .ok (.aload_n 0, 1) := by decide +kernel
theorem dX4_init_1 : decode cX4_init 1 = .ok (.invokespecial 1, 3) := by decide +kernel
theorem dX4_init_4 : decode cX4_init 4 = .ok (.aload_n 0, 1) := by decide +kernel
theorem dX4_init_5 : decode cX4_init 5 = .ok (.sipush 160, 3) := by decide +kernel
theorem dX4_init_8 : decode cX4_init 8 = .ok (.newarray .byte, 2) := by decide +kernel
theorem dX4_init_10 : decode cX4_init 10 = .ok (.putfield 9, 3) := by decide +kernel
theorem dX4_init_13 : decode cX4_init 13 = .ok (.return_, 1) := by decide +kernel
theorem dX4_append_0 : decode cX4_append 0 = .ok (.aload_n 0, 1) := by decide +kernel
theorem dX4_append_1 : decode cX4_append 1 = .ok (.getfield 13, 3) := by decide +kernel
theorem dX4_append_4 : decode cX4_append 4 = .ok (.sipush 160, 3) := by decide +kernel
theorem dX4_append_7 : decode cX4_append 7 = .ok (.if_icmp .lt 5, 3) := by decide +kernel
theorem dX4_append_10 : decode cX4_append 10 = .ok (.iconst 0, 1) := by decide +kernel
theorem dX4_append_11 : decode cX4_append 11 = .ok (.ireturn, 1) := by decide +kernel
theorem dX4_append_12 : decode cX4_append 12 = .ok (.aload_n 0, 1) := by decide +kernel
theorem dX4_append_13 : decode cX4_append 13 = .ok (.getfield 9, 3) := by decide +kernel
theorem dX4_append_16 : decode cX4_append 16 = .ok (.aload_n 0, 1) := by decide +kernel
theorem dX4_append_17 : decode cX4_append 17 = .ok (.getfield 13, 3) := by decide +kernel
theorem dX4_append_20 : decode cX4_append 20 = .ok (.iload_n 1, 1) := by decide +kernel
theorem dX4_append_21 : decode cX4_append 21 = .ok (.i2b, 1) := by decide +kernel
theorem dX4_append_22 : decode cX4_append 22 = .ok (.bastore, 1) := by decide +kernel
theorem dX4_append_23 : decode cX4_append 23 = .ok (.aload_n 0, 1) := by decide +kernel
theorem dX4_append_24 : decode cX4_append 24 = .ok (.dup, 1) := by decide +kernel
theorem dX4_append_25 : decode cX4_append 25 = .ok (.getfield 13, 3) := by decide +kernel
theorem dX4_append_28 : decode cX4_append 28 = .ok (.iconst 1, 1) := by decide +kernel
theorem dX4_append_29 : decode cX4_append 29 = .ok (.iadd, 1) := by decide +kernel
theorem dX4_append_30 : decode cX4_append 30 = .ok (.putfield 13, 3) := by decide +kernel
theorem dX4_append_33 : decode cX4_append 33 = .ok (.iconst 1, 1) := by decide +kernel
theorem dX4_append_34 : decode cX4_append 34 = .ok (.ireturn, 1) := by decide +kernel
theorem dX4_isBetween_0 : decode cX4_isBetween 0 = .ok (.iload_n 1, 1) := by decide +kernel
theorem dX4_isBetween_1 : decode cX4_isBetween 1 = .ok (.ifCond .lt 35, 3) := by decide +kernel
theorem dX4_isBetween_4 : decode cX4_isBetween 4 = .ok (.iload_n 1, 1) := by decide +kernel
theorem dX4_isBetween_5 : decode cX4_isBetween 5 = .ok (.aload_n 0, 1) := by decide +kernel
theorem dX4_isBetween_6 : decode cX4_isBetween 6 = .ok (.getfield 13, 3) := by decide +kernel
theorem dX4_isBetween_9 : decode cX4_isBetween 9 = .ok (.if_icmp .ge 27, 3) := by decide +kernel
theorem dX4_isBetween_12 : decode cX4_isBetween 12 = .ok (.aload_n 0, 1) := by decide +kernel
theorem dX4_isBetween_13 : decode cX4_isBetween 13 = .ok (.getfield 9, 3) := by decide +kernel
theorem dX4_isBetween_16 : decode cX4_isBetween 16 = .ok (.iload_n 1, 1) := by decide +kernel
theorem dX4_isBetween_17 : decode cX4_isBetween 17 = .ok (.baload, 1) := by decide +kernel
theorem dX4_isBetween_18 : decode cX4_isBetween 18 = .ok (.iload_n 2, 1) := by decide +kernel
theorem dX4_isBetween_19 : decode cX4_isBetween 19 = .ok (.if_icmp .lt 17, 3) := by decide +kernel
theorem dX4_isBetween_22 : decode cX4_isBetween 22 = .ok (.aload_n 0, 1) := by decide +kernel
theorem dX4_isBetween_23 : decode cX4_isBetween 23 = .ok (.getfield 9, 3) := by decide +kernel
theorem dX4_isBetween_26 : decode cX4_isBetween 26 = .ok (.iload_n 1, 1) := by decide +kernel
theorem dX4_isBetween_27 : decode cX4_isBetween 27 = .ok (.baload, 1) := by decide +kernel
theorem dX4_isBetween_28 : decode cX4_isBetween 28 = .ok (.iload_n 3, 1) := by decide +kernel
theorem dX4_isBetween_29 : decode cX4_isBetween 29 = .ok (.if_icmp .gt 7, 3) := by decide +kernel
theorem dX4_isBetween_32 : decode cX4_isBetween 32 = .ok (.iconst 1, 1) := by decide +kernel
theorem dX4_isBetween_33 : decode cX4_isBetween 33 = .ok (.goto 4, 3) := by decide +kernel
theorem dX4_isBetween_36 : decode cX4_isBetween 36 = .ok (.iconst 0, 1) := by decide +kernel
theorem dX4_isBetween_37 : decode cX4_isBetween 37 = .ok (.ireturn, 1) := by decide +kernel
theorem dX5_init_0 : decode cX5_init 0 = .ok (.aload_n 0, 1) := by decide +kernel
theorem dX5_init_1 : decode cX5_init 1 = .ok (.invokespecial 1, 3) := by decide +kernel
theorem dX5_init_4 : decode cX5_init 4 = .ok (.aload_n 0, 1) := by decide +kernel
theorem dX5_init_5 : decode cX5_init 5 = .ok (.new 7, 3) := by decide +kernel
theorem dX5_init_8 : decode cX5_init 8 = .ok (.dup, 1) := by decide +kernel
theorem dX5_init_9 : decode cX5_init 9 = .ok (.invokespecial 9, 3) := by decide +kernel
theorem dX5_init_12 : decode cX5_init 12 = .ok (.putfield 10, 3) := by decide +kernel
theorem dX5_init_15 : decode cX5_init 15 = .ok (.return_, 1) := by decide +kernel
theorem dX5_readLines_0 : decode cX5_readLines 0 = .ok (.aload_n 1, 1) := by decide +kernel
theorem dX5_readLines_1 : decode cX5_readLines 1 = .ok (.invokevirtual 16, 3) := by decide +kernel
theorem dX5_readLines_4 : decode cX5_readLines 4 = .ok (.aload_n 0, 1) := by decide +kernel
theorem dX5_readLines_5 : decode cX5_readLines 5 = .ok (.iconst 0, 1) := by decide +kernel
theorem dX5_readLines_6 : decode cX5_readLines 6 = .ok (.putfield 21, 3) := by decide +kernel
theorem dX5_readLines_9 : decode cX5_readLines 9 = .ok (.aload_n 0, 1) := by decide +kernel
theorem dX5_readLines_10 : decode cX5_readLines 10 = .ok (.iconst 0, 1) := by decide +kernel
theorem dX5_readLines_11 : decode cX5_readLines 11 = .ok (.putfield 25, 3) := by decide +kernel
theorem dX5_readLines_14 : decode cX5_readLines 14 = .ok (.aload_n 0, 1) := by decide +kernel
theorem dX5_readLines_15 : decode cX5_readLines 15 = .ok (.iconst 0, 1) := by decide +kernel
theorem dX5_readLines_16 : decode cX5_readLines 16 = .ok (.putfield 28, 3) := by decide +kernel
theorem dX5_readLines_19 : decode cX5_readLines 19 = .ok (.aload_n 0, 1) := by decide +kernel
theorem dX5_readLines_20 : decode cX5_readLines 20 = .ok (.iconst 0, 1) := by decide +kernel
theorem dX5_readLines_21 : decode cX5_readLines 21 = .ok (.putfield 31, 3) := by decide +kernel
theorem dX5_readLines_24 : decode cX5_readLines 24 = .ok (.iconst 0, 1) := by decide +kernel
theorem dX5_readLines_25 : decode cX5_readLines 25 = .ok (.istore_n 2, 1) := by decide +kernel
theorem dX5_readLines_26 : decode cX5_readLines 26 = .ok (.iconst 0, 1) := by decide +kernel
theorem dX5_readLines_27 : decode cX5_readLines 27 = .ok (.istore_n 3, 1) := by decide +kernel
theorem dX5_readLines_28 : decode cX5_readLines 28 = .ok (.iload_n 3, 1) := by decide +kernel
theorem dX5_readLines_29 : decode cX5_readLines 29 = .ok (.sipush 160, 3) := by decide +kernel
theorem dX5_readLines_32 : decode cX5_readLines 32 = .ok (.if_icmp .gt 37, 3) := by decide +kernel
theorem dX5_readLines_35 : decode cX5_readLines 35 = .ok (.aload_n 0, 1) := by decide +kernel
theorem dX5_readLines_36 : decode cX5_readLines 36 = .ok (.invokevirtual 34, 3) := by decide +kernel
theorem dX5_readLines_39 : decode cX5_readLines 39 = .ok (.ifCond .eq 30, 3) := by decide +kernel
theorem dX5_readLines_42 : decode cX5_readLines 42 = .ok (.aload_n 0, 1) := by decide +kernel
theorem dX5_readLines_43 : decode cX5_readLines 43 = .ok (.getfield 38, 3) := by decide +kernel
theorem dX5_readLines_46 : decode cX5_readLines 46 = .ok (.ifCond .eq 23, 3) := by decide +kernel
theorem dX5_readLines_49 : decode cX5_readLines 49 = .ok (.aload_n 0, 1) := by decide +kernel
theorem dX5_readLines_50 : decode cX5_readLines 50 = .ok (.aload_n 1, 1) := by decide +kernel
theorem dX5_readLines_51 : decode cX5_readLines 51 = .ok (.invokevirtual 41, 3) := by decide +kernel
theorem dX5_readLines_54 : decode cX5_readLines 54 = .ok (.ifCond .ne 6, 3) := by decide +kernel
theorem dX5_readLines_57 : decode cX5_readLines 57 = .ok (.goto 12, 3) := by decide +kernel
theorem dX5_readLines_60 : decode cX5_readLines 60 = .ok (.iinc 2 1, 3) := by decide +kernel
theorem dX5_readLines_63 : decode cX5_readLines 63 = .ok (.iinc 3 1, 3) := by decide +kernel
theorem dX5_readLines_66 : decode cX5_readLines 66 = .ok (.goto (-38), 3) := by decide +kernel
theorem dX5_readLines_69 : decode cX5_readLines 69 = .ok (.iload_n 2, 1) := by decide +kernel
theorem dX5_readLines_70 : decode cX5_readLines 70 = .ok (.ireturn, 1) := by decide +kernel
theorem dX5_readLine_0 : decode cX5_readLine 0 = .ok (.iconst 0, 1) := by decide +kernel
theorem dX5_readLine_1 : decode cX5_readLine 1 = .ok (.istore_n 2, 1) := by decide +kernel
theorem dX5_readLine_2 : decode cX5_readLine 2 = .ok (.iload_n 2, 1) := by decide +kernel
theorem dX5_readLine_3 : decode cX5_readLine 3 = .ok (.iconst 4, 1) := by decide +kernel
theorem dX5_readLine_4 : decode cX5_readLine 4 = .ok (.if_icmp .ge 27, 3) := by decide +kernel
theorem dX5_readLine_7 : decode cX5_readLine 7 = .ok (.aload_n 0, 1) := by decide +kernel
theorem dX5_readLine_8 : decode cX5_readLine 8 = .ok (.iload_n 2, 1) := by decide +kernel
theorem dX5_readLine_9 : decode cX5_readLine 9 = .ok (.invokestatic 45, 3) := by decide +kernel
theorem dX5_readLine_12 : decode cX5_readLine 12 = .ok (.invokevirtual 49, 3) := by decide +kernel
theorem dX5_readLine_15 : decode cX5_readLine 15 = .ok (.ifCond .eq 10, 3) := by decide +kernel
theorem dX5_readLine_18 : decode cX5_readLine 18 = .ok (.aload_n 0, 1) := by decide +kernel
theorem dX5_readLine_19 : decode cX5_readLine 19 = .ok (.aload_n 1, 1) := by decide +kernel
theorem dX5_readLine_20 : decode cX5_readLine 20 = .ok (.iload_n 2, 1) := by decide +kernel
theorem dX5_readLine_21 : decode cX5_readLine 21 = .ok (.invokevirtual 53, 3) := by decide +kernel
theorem dX5_readLine_24 : decode cX5_readLine 24 = .ok (.ireturn, 1) := by decide +kernel
theorem dX5_readLine_25 : decode cX5_readLine 25 = .ok (.iinc 2 1, 3) := by decide +kernel
theorem dX5_readLine_28 : decode cX5_readLine 28 = .ok (.goto (-26), 3) := by decide +kernel
theorem dX5_readLine_31 : decode cX5_readLine 31 = .ok (.aload_n 0, 1) := by decide +kernel
theorem dX5_readLine_32 : decode cX5_readLine 32 = .ok (.ldc 57, 2) := by decide +kernel
theorem dX5_readLine_34 : decode cX5_readLine 34 = .ok (.invokevirtual 49, 3) := by decide +kernel
theorem dX5_readLine_37 : decode cX5_readLine 37 = .ok (.ifCond .eq 9, 3) := by decide +kernel
theorem dX5_readLine_40 : decode cX5_readLine 40 = .ok (.aload_n 0, 1) := by decide +kernel
theorem dX5_readLine_41 : decode cX5_readLine 41 = .ok (.aload_n 1, 1) := by decide +kernel
theorem dX5_readLine_42 : decode cX5_readLine 42 = .ok (.invokevirtual 59, 3) := by decide +kernel
theorem dX5_readLine_45 : decode cX5_readLine 45 = .ok (.ireturn, 1) := by decide +kernel
theorem dX5_readLine_46 : decode cX5_readLine 46 = .ok (.aload_n 0, 1) := by decide +kernel
theorem dX5_readLine_47 : decode cX5_readLine 47 = .ok (.ldc 62, 2) := by decide +kernel
theorem dX5_readLine_49 : decode cX5_readLine 49 = .ok (.invokevirtual 49, 3) := by decide +kernel
theorem dX5_readLine_52 : decode cX5_readLine 52 = .ok (.ifCond .eq 11, 3) := by decide +kernel
theorem dX5_readLine_55 : decode cX5_readLine 55 = .ok (.aload_n 0, 1) := by decide +kernel
theorem dX5_readLine_56 : decode cX5_readLine 56 = .ok (.aload_n 1, 1) := by decide +kernel
theorem dX5_readLine_57 : decode cX5_readLine 57 = .ok (.invokevirtual 64, 3) := by decide +kernel
theorem dX5_readLine_60 : decode cX5_readLine 60 = .ok (.goto 8, 3) := by decide +kernel
theorem dX5_readLine_63 : decode cX5_readLine 63 = .ok (.aload_n 0, 1) := by decide +kernel
theorem dX5_readLine_64 : decode cX5_readLine 64 = .ok (.iconst 2, 1) := by decide +kernel
theorem dX5_readLine_65 : decode cX5_readLine 65 = .ok (.invokevirtual 67, 3) := by decide +kernel
theorem dX5_readLine_68 : decode cX5_readLine 68 = .ok (.ireturn, 1) := by decide +kernel
theorem dX5_readTaker_0 : decode cX5_readTaker 0 = .ok (.aload_n 1, 1) := by decide +kernel
theorem dX5_readTaker_1 : decode cX5_readTaker 1 = .ok (.getfield 71, 3) := by decide +kernel
theorem dX5_readTaker_4 : decode cX5_readTaker 4 = .ok (.iconst 5, 1) := by decide +kernel
theorem dX5_readTaker_5 : decode cX5_readTaker 5 = .ok (.if_icmp .lt 9, 3) := by decide +kernel
theorem dX5_readTaker_8 : decode cX5_readTaker 8 = .ok (.aload_n 0, 1) := by decide +kernel
theorem dX5_readTaker_9 : decode cX5_readTaker 9 = .ok (.iconst 5, 1) := by decide +kernel
theorem dX5_readTaker_10 : decode cX5_readTaker 10 = .ok (.invokevirtual 67, 3) := by decide +kernel
theorem dX5_readTaker_13 : decode cX5_readTaker 13 = .ok (.ireturn, 1) := by decide +kernel
theorem dX5_readTaker_14 : decode cX5_readTaker 14 = .ok (.aload_n 0, 1) := by decide +kernel
theorem dX5_readTaker_15 : decode cX5_readTaker 15 = .ok (.iconst 0, 1) := by decide +kernel
theorem dX5_readTaker_16 : decode cX5_readTaker 16 = .ok (.iconst 5, 1) := by decide +kernel
theorem dX5_readTaker_17 : decode cX5_readTaker 17 = .ok (.invokevirtual 74, 3) := by decide +kernel
theorem dX5_readTaker_20 : decode cX5_readTaker 20 = .ok (.ifCond .ne 5, 3) := by decide +kernel
theorem dX5_readTaker_23 : decode cX5_readTaker 23 = .ok (.iconst 0, 1) := by decide +kernel
theorem dX5_readTaker_24 : decode cX5_readTaker 24 = .ok (.ireturn, 1) := by decide +kernel
theorem dX5_readTaker_25 : decode cX5_readTaker 25 = .ok (.aload_n 0, 1) := by decide +kernel
theorem dX5_readTaker_26 : decode cX5_readTaker 26 = .ok (.invokevirtual 78, 3) := by decide +kernel
theorem dX5_readTaker_29 : decode cX5_readTaker 29 = .ok (.ifCond .eq 19, 3) := by decide +kernel
theorem dX5_readTaker_32 : decode cX5_readTaker 32 = .ok (.aload_n 1, 1) := by decide +kernel
theorem dX5_readTaker_33 : decode cX5_readTaker 33 = .ok (.iload_n 2, 1) := by decide +kernel
theorem dX5_readTaker_34 : decode cX5_readTaker 34 = .ok (.aload_n 0, 1) := by decide +kernel
theorem dX5_readTaker_35 : decode cX5_readTaker 35 = .ok (.getfield 81, 3) := by decide +kernel
theorem dX5_readTaker_38 : decode cX5_readTaker 38 = .ok (.invokevirtual 84, 3) := by decide +kernel
theorem dX5_readTaker_41 : decode cX5_readTaker 41 = .ok (.ifCond .eq 7, 3) := by decide +kernel
theorem dX5_readTaker_44 : decode cX5_readTaker 44 = .ok (.iconst 1, 1) := by decide +kernel
theorem dX5_readTaker_45 : decode cX5_readTaker 45 = .ok (.goto 4, 3) := by decide +kernel
theorem dX5_readTaker_48 : decode cX5_readTaker 48 = .ok (.iconst 0, 1) := by decide +kernel
theorem dX5_readTaker_49 : decode cX5_readTaker 49 = .ok (.ireturn, 1) := by decide +kernel
theorem dX5_readKeeper_0 : decode cX5_readKeeper 0 = .ok (.aload_n 1, 1) := by decide +kernel
theorem dX5_readKeeper_1 : decode cX5_readKeeper 1 = .ok (.getfield 87, 3) := by decide +kernel
theorem dX5_readKeeper_4 : decode cX5_readKeeper 4 = .ok (.iconst 3, 1) := by decide +kernel
theorem dX5_readKeeper_5 : decode cX5_readKeeper 5 = .ok (.if_icmp .lt 9, 3) := by decide +kernel
theorem dX5_readKeeper_8 : decode cX5_readKeeper 8 = .ok (.aload_n 0, 1) := by decide +kernel
theorem dX5_readKeeper_9 : decode cX5_readKeeper 9 = .ok (.iconst 5, 1) := by decide +kernel
theorem dX5_readKeeper_10 : decode cX5_readKeeper 10 = .ok (.invokevirtual 67, 3) := by decide +kernel
theorem dX5_readKeeper_13 : decode cX5_readKeeper 13 = .ok (.ireturn, 1) := by decide +kernel
theorem dX5_readKeeper_14 : decode cX5_readKeeper 14 = .ok (.aload_n 0, 1) := by decide +kernel
theorem dX5_readKeeper_15 : decode cX5_readKeeper 15 = .ok (.iconst 0, 1) := by decide +kernel
theorem dX5_readKeeper_16 : decode cX5_readKeeper 16 = .ok (.iconst 5, 1) := by decide +kernel
theorem dX5_readKeeper_17 : decode cX5_readKeeper 17 = .ok (.invokevirtual 74, 3) := by decide +kernel
theorem dX5_readKeeper_20 : decode cX5_readKeeper 20 = .ok (.ifCond .ne 5, 3) := by decide +kernel
theorem dX5_readKeeper_23 : decode cX5_readKeeper 23 = .ok (.iconst 0, 1) := by decide +kernel
theorem dX5_readKeeper_24 : decode cX5_readKeeper 24 = .ok (.ireturn, 1) := by decide +kernel
theorem dX5_readKeeper_25 : decode cX5_readKeeper 25 = .ok (.aload_n 0, 1) := by decide +kernel
theorem dX5_readKeeper_26 : decode cX5_readKeeper 26 = .ok (.getfield 81, 3) := by decide +kernel
theorem dX5_readKeeper_29 : decode cX5_readKeeper 29 = .ok (.istore_n 2, 1) := by decide +kernel
theorem dX5_readKeeper_30 : decode cX5_readKeeper 30 = .ok (.aload_n 0, 1) := by decide +kernel
theorem dX5_readKeeper_31 : decode cX5_readKeeper 31 = .ok (.iconst 0, 1) := by decide +kernel
theorem dX5_readKeeper_32 : decode cX5_readKeeper 32 = .ok (.iconst 5, 1) := by decide +kernel
theorem dX5_readKeeper_33 : decode cX5_readKeeper 33 = .ok (.invokevirtual 74, 3) := by decide +kernel
theorem dX5_readKeeper_36 : decode cX5_readKeeper 36 = .ok (.ifCond .ne 5, 3) := by decide +kernel
theorem dX5_readKeeper_39 : decode cX5_readKeeper 39 = .ok (.iconst 0, 1) := by decide +kernel
theorem dX5_readKeeper_40 : decode cX5_readKeeper 40 = .ok (.ireturn, 1) := by decide +kernel
theorem dX5_readKeeper_41 : decode cX5_readKeeper 41 = .ok (.aload_n 0, 1) := by decide +kernel
theorem dX5_readKeeper_42 : decode cX5_readKeeper 42 = .ok (.getfield 81, 3) := by decide +kernel
theorem dX5_readKeeper_45 : decode cX5_readKeeper 45 = .ok (.istore_n 3, 1) := by decide +kernel
theorem dX5_readKeeper_46 : decode cX5_readKeeper 46 = .ok (.aload_n 0, 1) := by decide +kernel
theorem dX5_readKeeper_47 : decode cX5_readKeeper 47 = .ok (.iconst 1, 1) := by decide +kernel
theorem dX5_readKeeper_48 : decode cX5_readKeeper 48 = .ok (.bipush 9, 2) := by decide +kernel
theorem dX5_readKeeper_50 : decode cX5_readKeeper 50 = .ok (.invokevirtual 74, 3) := by decide +kernel
theorem dX5_readKeeper_53 : decode cX5_readKeeper 53 = .ok (.ifCond .ne 5, 3) := by decide +kernel
theorem dX5_readKeeper_56 : decode cX5_readKeeper 56 = .ok (.iconst 0, 1) := by decide +kernel
theorem dX5_readKeeper_57 : decode cX5_readKeeper 57 = .ok (.ireturn, 1) := by decide +kernel
theorem dX5_readKeeper_58 : decode cX5_readKeeper 58 = .ok (.aload_n 0, 1) := by decide +kernel
theorem dX5_readKeeper_59 : decode cX5_readKeeper 59 = .ok (.invokevirtual 78, 3) := by decide +kernel
theorem dX5_readKeeper_62 : decode cX5_readKeeper 62 = .ok (.ifCond .eq 20, 3) := by decide +kernel
theorem dX5_readKeeper_65 : decode cX5_readKeeper 65 = .ok (.aload_n 1, 1) := by decide +kernel
theorem dX5_readKeeper_66 : decode cX5_readKeeper 66 = .ok (.iload_n 2, 1) := by decide +kernel
theorem dX5_readKeeper_67 : decode cX5_readKeeper 67 = .ok (.iload_n 3, 1) := by decide +kernel
theorem dX5_readKeeper_68 : decode cX5_readKeeper 68 = .ok (.aload_n 0, 1) := by decide +kernel
theorem dX5_readKeeper_69 : decode cX5_readKeeper 69 = .ok (.getfield 81, 3) := by decide +kernel
theorem dX5_readKeeper_72 : decode cX5_readKeeper 72 = .ok (.invokevirtual 90, 3) := by decide +kernel
theorem dX5_readKeeper_75 : decode cX5_readKeeper 75 = .ok (.ifCond .eq 7, 3) := by decide +kernel
theorem dX5_readKeeper_78 : decode cX5_readKeeper 78 = .ok (.iconst 1, 1) := by decide +kernel
theorem dX5_readKeeper_79 : decode cX5_readKeeper 79 = .ok (.goto 4, 3) := by decide +kernel
theorem dX5_readKeeper_82 : decode cX5_readKeeper 82 = .ok (.iconst 0, 1) := by decide +kernel
theorem dX5_readKeeper_83 : decode cX5_readKeeper 83 = .ok (.ireturn, 1) := by decide +kernel
theorem dX5_readGate_0 : decode cX5_readGate 0 = .ok (.aload_n 0, 1) := by decide +kernel
theorem dX5_readGate_1 : decode cX5_readGate 1 = .ok (.iconst 0, 1) := by decide +kernel
theorem dX5_readGate_2 : decode cX5_readGate 2 = .ok (.iconst 5, 1) := by decide +kernel
theorem dX5_readGate_3 : decode cX5_readGate 3 = .ok (.invokevirtual 74, 3) := by decide +kernel
theorem dX5_readGate_6 : decode cX5_readGate 6 = .ok (.ifCond .ne 5, 3) := by decide +kernel
theorem dX5_readGate_9 : decode cX5_readGate 9 = .ok (.iconst 0, 1) := by decide +kernel
theorem dX5_readGate_10 : decode cX5_readGate 10 = .ok (.ireturn, 1) := by decide +kernel
theorem dX5_readGate_11 : decode cX5_readGate 11 = .ok (.aload_n 0, 1) := by decide +kernel
theorem dX5_readGate_12 : decode cX5_readGate 12 = .ok (.getfield 81, 3) := by decide +kernel
theorem dX5_readGate_15 : decode cX5_readGate 15 = .ok (.istore_n 2, 1) := by decide +kernel
theorem dX5_readGate_16 : decode cX5_readGate 16 = .ok (.aload_n 0, 1) := by decide +kernel
theorem dX5_readGate_17 : decode cX5_readGate 17 = .ok (.getfield 25, 3) := by decide +kernel
theorem dX5_readGate_20 : decode cX5_readGate 20 = .ok (.iload_n 2, 1) := by decide +kernel
theorem dX5_readGate_21 : decode cX5_readGate 21 = .ok (.ishr, 1) := by decide +kernel
theorem dX5_readGate_22 : decode cX5_readGate 22 = .ok (.iconst 1, 1) := by decide +kernel
theorem dX5_readGate_23 : decode cX5_readGate 23 = .ok (.iand, 1) := by decide +kernel
theorem dX5_readGate_24 : decode cX5_readGate 24 = .ok (.iconst 1, 1) := by decide +kernel
theorem dX5_readGate_25 : decode cX5_readGate 25 = .ok (.if_icmp .ne 9, 3) := by decide +kernel
theorem dX5_readGate_28 : decode cX5_readGate 28 = .ok (.aload_n 0, 1) := by decide +kernel
theorem dX5_readGate_29 : decode cX5_readGate 29 = .ok (.iconst 4, 1) := by decide +kernel
theorem dX5_readGate_30 : decode cX5_readGate 30 = .ok (.invokevirtual 67, 3) := by decide +kernel
theorem dX5_readGate_33 : decode cX5_readGate 33 = .ok (.ireturn, 1) := by decide +kernel
theorem dX5_readGate_34 : decode cX5_readGate 34 = .ok (.aload_n 0, 1) := by decide +kernel
theorem dX5_readGate_35 : decode cX5_readGate 35 = .ok (.dup, 1) := by decide +kernel
theorem dX5_readGate_36 : decode cX5_readGate 36 = .ok (.getfield 25, 3) := by decide +kernel
theorem dX5_readGate_39 : decode cX5_readGate 39 = .ok (.iconst 1, 1) := by decide +kernel
theorem dX5_readGate_40 : decode cX5_readGate 40 = .ok (.iload_n 2, 1) := by decide +kernel
theorem dX5_readGate_41 : decode cX5_readGate 41 = .ok (.ishl, 1) := by decide +kernel
theorem dX5_readGate_42 : decode cX5_readGate 42 = .ok (.ior, 1) := by decide +kernel
theorem dX5_readGate_43 : decode cX5_readGate 43 = .ok (.putfield 25, 3) := by decide +kernel
theorem dX5_readGate_46 : decode cX5_readGate 46 = .ok (.aload_n 0, 1) := by decide +kernel
theorem dX5_readGate_47 : decode cX5_readGate 47 = .ok (.iconst 0, 1) := by decide +kernel
theorem dX5_readGate_48 : decode cX5_readGate 48 = .ok (.bipush 60, 2) := by decide +kernel
theorem dX5_readGate_50 : decode cX5_readGate 50 = .ok (.invokevirtual 74, 3) := by decide +kernel
theorem dX5_readGate_53 : decode cX5_readGate 53 = .ok (.ifCond .ne 5, 3) := by decide +kernel
theorem dX5_readGate_56 : decode cX5_readGate 56 = .ok (.iconst 0, 1) := by decide +kernel
theorem dX5_readGate_57 : decode cX5_readGate 57 = .ok (.ireturn, 1) := by decide +kernel
theorem dX5_readGate_58 : decode cX5_readGate 58 = .ok (.aload_n 1, 1) := by decide +kernel
theorem dX5_readGate_59 : decode cX5_readGate 59 = .ok (.getfield 94, 3) := by decide +kernel
theorem dX5_readGate_62 : decode cX5_readGate 62 = .ok (.iload_n 2, 1) := by decide +kernel
theorem dX5_readGate_63 : decode cX5_readGate 63 = .ok (.aload_n 0, 1) := by decide +kernel
theorem dX5_readGate_64 : decode cX5_readGate 64 = .ok (.getfield 81, 3) := by decide +kernel
theorem dX5_readGate_67 : decode cX5_readGate 67 = .ok (.iastore, 1) := by decide +kernel
theorem dX5_readGate_68 : decode cX5_readGate 68 = .ok (.aload_n 0, 1) := by decide +kernel
theorem dX5_readGate_69 : decode cX5_readGate 69 = .ok (.iconst 0, 1) := by decide +kernel
theorem dX5_readGate_70 : decode cX5_readGate 70 = .ok (.bipush 9, 2) := by decide +kernel
theorem dX5_readGate_72 : decode cX5_readGate 72 = .ok (.invokevirtual 74, 3) := by decide +kernel
theorem dX5_readGate_75 : decode cX5_readGate 75 = .ok (.ifCond .ne 5, 3) := by decide +kernel
theorem dX5_readGate_78 : decode cX5_readGate 78 = .ok (.iconst 0, 1) := by decide +kernel
theorem dX5_readGate_79 : decode cX5_readGate 79 = .ok (.ireturn, 1) := by decide +kernel
theorem dX5_readGate_80 : decode cX5_readGate 80 = .ok (.aload_n 1, 1) := by decide +kernel
theorem dX5_readGate_81 : decode cX5_readGate 81 = .ok (.getfield 98, 3) := by decide +kernel
theorem dX5_readGate_84 : decode cX5_readGate 84 = .ok (.iload_n 2, 1) := by decide +kernel
theorem dX5_readGate_85 : decode cX5_readGate 85 = .ok (.aload_n 0, 1) := by decide +kernel
theorem dX5_readGate_86 : decode cX5_readGate 86 = .ok (.getfield 81, 3) := by decide +kernel
theorem dX5_readGate_89 : decode cX5_readGate 89 = .ok (.iastore, 1) := by decide +kernel
theorem dX5_readGate_90 : decode cX5_readGate 90 = .ok (.aload_n 0, 1) := by decide +kernel
theorem dX5_readGate_91 : decode cX5_readGate 91 = .ok (.invokevirtual 78, 3) := by decide +kernel
theorem dX5_readGate_94 : decode cX5_readGate 94 = .ok (.ireturn, 1) := by decide +kernel
theorem dX5_readNumber_0 : decode cX5_readNumber 0 = .ok (.aload_n 0, 1) := by decide +kernel
theorem dX5_readNumber_1 : decode cX5_readNumber 1 = .ok (.invokevirtual 34, 3) := by decide +kernel
theorem dX5_readNumber_4 : decode cX5_readNumber 4 = .ok (.ifCond .ne 5, 3) := by decide +kernel
theorem dX5_readNumber_7 : decode cX5_readNumber 7 = .ok (.iconst 0, 1) := by decide +kernel
theorem dX5_readNumber_8 : decode cX5_readNumber 8 = .ok (.ireturn, 1) := by decide +kernel
theorem dX5_readNumber_9 : decode cX5_readNumber 9 = .ok (.aload_n 0, 1) := by decide +kernel
theorem dX5_readNumber_10 : decode cX5_readNumber 10 = .ok (.getfield 38, 3) := by decide +kernel
theorem dX5_readNumber_13 : decode cX5_readNumber 13 = .ok (.iconst 2, 1) := by decide +kernel
theorem dX5_readNumber_14 : decode cX5_readNumber 14 = .ok (.if_icmp .eq 9, 3) := by decide +kernel
theorem dX5_readNumber_17 : decode cX5_readNumber 17 = .ok (.aload_n 0, 1) := by decide +kernel
theorem dX5_readNumber_18 : decode cX5_readNumber 18 = .ok (.iconst 2, 1) := by decide +kernel
theorem dX5_readNumber_19 : decode cX5_readNumber 19 = .ok (.invokevirtual 67, 3) := by decide +kernel
theorem dX5_readNumber_22 : decode cX5_readNumber 22 = .ok (.ireturn, 1) := by decide +kernel
theorem dX5_readNumber_23 : decode cX5_readNumber 23 = .ok (.aload_n 0, 1) := by decide +kernel
theorem dX5_readNumber_24 : decode cX5_readNumber 24 = .ok (.getfield 81, 3) := by decide +kernel
theorem dX5_readNumber_27 : decode cX5_readNumber 27 = .ok (.iload_n 1, 1) := by decide +kernel
theorem dX5_readNumber_28 : decode cX5_readNumber 28 = .ok (.if_icmp .lt 11, 3) := by decide +kernel
theorem dX5_readNumber_31 : decode cX5_readNumber 31 = .ok (.aload_n 0, 1) := by decide +kernel
theorem dX5_readNumber_32 : decode cX5_readNumber 32 = .ok (.getfield 81, 3) := by decide +kernel
theorem dX5_readNumber_35 : decode cX5_readNumber 35 = .ok (.iload_n 2, 1) := by decide +kernel
theorem dX5_readNumber_36 : decode cX5_readNumber 36 = .ok (.if_icmp .le 11, 3) := by decide +kernel
theorem dX5_readNumber_39 : decode cX5_readNumber 39 = .ok (.aload_n 0, 1) := by decide +kernel
theorem dX5_readNumber_40 : decode cX5_readNumber 40 = .ok (.iconst 3, 1) := by decide +kernel
theorem dX5_readNumber_41 : decode cX5_readNumber 41 = .ok (.invokevirtual 67, 3) := by decide +kernel
theorem dX5_readNumber_44 : decode cX5_readNumber 44 = .ok (.ifCond .eq 7, 3) := by decide +kernel
theorem dX5_readNumber_47 : decode cX5_readNumber 47 = .ok (.iconst 1, 1) := by decide +kernel
theorem dX5_readNumber_48 : decode cX5_readNumber 48 = .ok (.goto 4, 3) := by decide +kernel
theorem dX5_readNumber_51 : decode cX5_readNumber 51 = .ok (.iconst 0, 1) := by decide +kernel
theorem dX5_readNumber_52 : decode cX5_readNumber 52 = .ok (.ireturn, 1) := by decide +kernel
theorem dX5_readSemicolonBehind_0 : decode cX5_readSemicolonBehind 0 = .ok (.aload_n 0, 1) := by decide +kernel
theorem dX5_readSemicolonBehind_1 : decode cX5_readSemicolonBehind 1 = .ok (.invokevirtual 34, 3) := by decide +kernel
theorem dX5_readSemicolonBehind_4 : decode cX5_readSemicolonBehind 4 = .ok (.ifCond .ne 5, 3) := by decide +kernel
theorem dX5_readSemicolonBehind_7 : decode cX5_readSemicolonBehind 7 = .ok (.iconst 0, 1) := by decide +kernel
theorem dX5_readSemicolonBehind_8 : decode cX5_readSemicolonBehind 8 = .ok (.ireturn, 1) := by decide +kernel
theorem dX5_readSemicolonBehind_9 : decode cX5_readSemicolonBehind 9 = .ok (.aload_n 0, 1) := by decide +kernel
theorem dX5_readSemicolonBehind_10 : decode cX5_readSemicolonBehind 10 = .ok (.getfield 38, 3) := by decide +kernel
theorem dX5_readSemicolonBehind_13 : decode cX5_readSemicolonBehind 13 = .ok (.iconst 3, 1) := by decide +kernel
theorem dX5_readSemicolonBehind_14 : decode cX5_readSemicolonBehind 14 = .ok (.if_icmp .eq 11, 3) := by decide +kernel
theorem dX5_readSemicolonBehind_17 : decode cX5_readSemicolonBehind 17 = .ok (.aload_n 0, 1) := by decide +kernel
theorem dX5_readSemicolonBehind_18 : decode cX5_readSemicolonBehind 18 = .ok (.iconst 2, 1) := by decide +kernel
theorem dX5_readSemicolonBehind_19 : decode cX5_readSemicolonBehind 19 = .ok (.invokevirtual 67, 3) := by decide +kernel
theorem dX5_readSemicolonBehind_22 : decode cX5_readSemicolonBehind 22 = .ok (.ifCond .eq 7, 3) := by decide +kernel
theorem dX5_readSemicolonBehind_25 : decode cX5_readSemicolonBehind 25 = .ok (.iconst 1, 1) := by decide +kernel
theorem dX5_readSemicolonBehind_26 : decode cX5_readSemicolonBehind 26 = .ok (.goto 4, 3) := by decide +kernel
theorem dX5_readSemicolonBehind_29 : decode cX5_readSemicolonBehind 29 = .ok (.iconst 0, 1) := by decide +kernel
theorem dX5_readSemicolonBehind_30 : decode cX5_readSemicolonBehind 30 = .ok (.ireturn, 1) := by decide +kernel
theorem dX5_readToken_0 : decode cX5_readToken 0 = .ok (.aload_n 0, 1) := by decide +kernel
theorem dX5_readToken_1 : decode cX5_readToken 1 = .ok (.aload_n 0, 1) := by decide +kernel
theorem dX5_readToken_2 : decode cX5_readToken 2 = .ok (.aload_n 0, 1) := by decide +kernel
theorem dX5_readToken_3 : decode cX5_readToken 3 = .ok (.getfield 21, 3) := by decide +kernel
theorem dX5_readToken_6 : decode cX5_readToken 6 = .ok (.bipush 32, 2) := by decide +kernel
theorem dX5_readToken_8 : decode cX5_readToken 8 = .ok (.bipush 32, 2) := by decide +kernel
theorem dX5_readToken_10 : decode cX5_readToken 10 = .ok (.invokevirtual 101, 3) := by decide +kernel
theorem dX5_readToken_13 : decode cX5_readToken 13 = .ok (.putfield 105, 3) := by decide +kernel
theorem dX5_readToken_16 : decode cX5_readToken 16 = .ok (.aload_n 0, 1) := by decide +kernel
theorem dX5_readToken_17 : decode cX5_readToken 17 = .ok (.getfield 105, 3) := by decide +kernel
theorem dX5_readToken_20 : decode cX5_readToken 20 = .ok (.aload_n 0, 1) := by decide +kernel
theorem dX5_readToken_21 : decode cX5_readToken 21 = .ok (.getfield 10, 3) := by decide +kernel
theorem dX5_readToken_24 : decode cX5_readToken 24 = .ok (.getfield 108, 3) := by decide +kernel
theorem dX5_readToken_27 : decode cX5_readToken 27 = .ok (.if_icmp .lt 29, 3) := by decide +kernel
theorem dX5_readToken_30 : decode cX5_readToken 30 = .ok (.aload_n 0, 1) := by decide +kernel
theorem dX5_readToken_31 : decode cX5_readToken 31 = .ok (.aload_n 0, 1) := by decide +kernel
theorem dX5_readToken_32 : decode cX5_readToken 32 = .ok (.getfield 10, 3) := by decide +kernel
theorem dX5_readToken_35 : decode cX5_readToken 35 = .ok (.getfield 108, 3) := by decide +kernel
theorem dX5_readToken_38 : decode cX5_readToken 38 = .ok (.putfield 105, 3) := by decide +kernel
theorem dX5_readToken_41 : decode cX5_readToken 41 = .ok (.aload_n 0, 1) := by decide +kernel
theorem dX5_readToken_42 : decode cX5_readToken 42 = .ok (.aload_n 0, 1) := by decide +kernel
theorem dX5_readToken_43 : decode cX5_readToken 43 = .ok (.getfield 105, 3) := by decide +kernel
theorem dX5_readToken_46 : decode cX5_readToken 46 = .ok (.putfield 21, 3) := by decide +kernel
theorem dX5_readToken_49 : decode cX5_readToken 49 = .ok (.aload_n 0, 1) := by decide +kernel
theorem dX5_readToken_50 : decode cX5_readToken 50 = .ok (.iconst 0, 1) := by decide +kernel
theorem dX5_readToken_51 : decode cX5_readToken 51 = .ok (.putfield 38, 3) := by decide +kernel
theorem dX5_readToken_54 : decode cX5_readToken 54 = .ok (.iconst 1, 1) := by decide +kernel
theorem dX5_readToken_55 : decode cX5_readToken 55 = .ok (.ireturn, 1) := by decide +kernel
theorem dX5_readToken_56 : decode cX5_readToken 56 = .ok (.aload_n 0, 1) := by decide +kernel
theorem dX5_readToken_57 : decode cX5_readToken 57 = .ok (.getfield 10, 3) := by decide +kernel
theorem dX5_readToken_60 : decode cX5_readToken 60 = .ok (.aload_n 0, 1) := by decide +kernel
theorem dX5_readToken_61 : decode cX5_readToken 61 = .ok (.getfield 105, 3) := by decide +kernel
theorem dX5_readToken_64 : decode cX5_readToken 64 = .ok (.bipush 97, 2) := by decide +kernel
theorem dX5_readToken_66 : decode cX5_readToken 66 = .ok (.bipush 122, 2) := by decide +kernel
theorem dX5_readToken_68 : decode cX5_readToken 68 = .ok (.invokevirtual 111, 3) := by decide +kernel
theorem dX5_readToken_71 : decode cX5_readToken 71 = .ok (.ifCond .eq 26, 3) := by decide +kernel
theorem dX5_readToken_74 : decode cX5_readToken 74 = .ok (.aload_n 0, 1) := by decide +kernel
theorem dX5_readToken_75 : decode cX5_readToken 75 = .ok (.aload_n 0, 1) := by decide +kernel
theorem dX5_readToken_76 : decode cX5_readToken 76 = .ok (.aload_n 0, 1) := by decide +kernel
theorem dX5_readToken_77 : decode cX5_readToken 77 = .ok (.getfield 105, 3) := by decide +kernel
theorem dX5_readToken_80 : decode cX5_readToken 80 = .ok (.bipush 97, 2) := by decide +kernel
theorem dX5_readToken_82 : decode cX5_readToken 82 = .ok (.bipush 122, 2) := by decide +kernel
theorem dX5_readToken_84 : decode cX5_readToken 84 = .ok (.invokevirtual 101, 3) := by decide +kernel
theorem dX5_readToken_87 : decode cX5_readToken 87 = .ok (.putfield 21, 3) := by decide +kernel
theorem dX5_readToken_90 : decode cX5_readToken 90 = .ok (.aload_n 0, 1) := by decide +kernel
theorem dX5_readToken_91 : decode cX5_readToken 91 = .ok (.iconst 1, 1) := by decide +kernel
theorem dX5_readToken_92 : decode cX5_readToken 92 = .ok (.putfield 38, 3) := by decide +kernel
theorem dX5_readToken_95 : decode cX5_readToken 95 = .ok (.iconst 1, 1) := by decide +kernel
theorem dX5_readToken_96 : decode cX5_readToken 96 = .ok (.ireturn, 1) := by decide +kernel
theorem dX5_readToken_97 : decode cX5_readToken 97 = .ok (.aload_n 0, 1) := by decide +kernel
theorem dX5_readToken_98 : decode cX5_readToken 98 = .ok (.getfield 10, 3) := by decide +kernel
theorem dX5_readToken_101 : decode cX5_readToken 101 = .ok (.aload_n 0, 1) := by decide +kernel
theorem dX5_readToken_102 : decode cX5_readToken 102 = .ok (.getfield 105, 3) := by decide +kernel
theorem dX5_readToken_105 : decode cX5_readToken 105 = .ok (.bipush 48, 2) := by decide +kernel
theorem dX5_readToken_107 : decode cX5_readToken 107 = .ok (.bipush 57, 2) := by decide +kernel
theorem dX5_readToken_109 : decode cX5_readToken 109 = .ok (.invokevirtual 111, 3) := by decide +kernel
theorem dX5_readToken_112 : decode cX5_readToken 112 = .ok (.ifCond .eq 45, 3) := by decide +kernel
theorem dX5_readToken_115 : decode cX5_readToken 115 = .ok (.aload_n 0, 1) := by decide +kernel
theorem dX5_readToken_116 : decode cX5_readToken 116 = .ok (.aload_n 0, 1) := by decide +kernel
theorem dX5_readToken_117 : decode cX5_readToken 117 = .ok (.aload_n 0, 1) := by decide +kernel
theorem dX5_readToken_118 : decode cX5_readToken 118 = .ok (.getfield 105, 3) := by decide +kernel
theorem dX5_readToken_121 : decode cX5_readToken 121 = .ok (.bipush 48, 2) := by decide +kernel
theorem dX5_readToken_123 : decode cX5_readToken 123 = .ok (.bipush 57, 2) := by decide +kernel
theorem dX5_readToken_125 : decode cX5_readToken 125 = .ok (.invokevirtual 101, 3) := by decide +kernel
theorem dX5_readToken_128 : decode cX5_readToken 128 = .ok (.putfield 21, 3) := by decide +kernel
theorem dX5_readToken_131 : decode cX5_readToken 131 = .ok (.aload_n 0, 1) := by decide +kernel
theorem dX5_readToken_132 : decode cX5_readToken 132 = .ok (.iconst 2, 1) := by decide +kernel
theorem dX5_readToken_133 : decode cX5_readToken 133 = .ok (.putfield 38, 3) := by decide +kernel
theorem dX5_readToken_136 : decode cX5_readToken 136 = .ok (.aload_n 0, 1) := by decide +kernel
theorem dX5_readToken_137 : decode cX5_readToken 137 = .ok (.invokevirtual 114, 3) := by decide +kernel
theorem dX5_readToken_140 : decode cX5_readToken 140 = .ok (.ifCond .ne 11, 3) := by decide +kernel
theorem dX5_readToken_143 : decode cX5_readToken 143 = .ok (.aload_n 0, 1) := by decide +kernel
theorem dX5_readToken_144 : decode cX5_readToken 144 = .ok (.iconst 1, 1) := by decide +kernel
theorem dX5_readToken_145 : decode cX5_readToken 145 = .ok (.invokevirtual 67, 3) := by decide +kernel
theorem dX5_readToken_148 : decode cX5_readToken 148 = .ok (.ifCond .eq 7, 3) := by decide +kernel
theorem dX5_readToken_151 : decode cX5_readToken 151 = .ok (.iconst 1, 1) := by decide +kernel
theorem dX5_readToken_152 : decode cX5_readToken 152 = .ok (.goto 4, 3) := by decide +kernel
theorem dX5_readToken_155 : decode cX5_readToken 155 = .ok (.iconst 0, 1) := by decide +kernel
theorem dX5_readToken_156 : decode cX5_readToken 156 = .ok (.ireturn, 1) := by decide +kernel
theorem dX5_readToken_157 : decode cX5_readToken 157 = .ok (.aload_n 0, 1) := by decide +kernel
theorem dX5_readToken_158 : decode cX5_readToken 158 = .ok (.aload_n 0, 1) := by decide +kernel
theorem dX5_readToken_159 : decode cX5_readToken 159 = .ok (.getfield 105, 3) := by decide +kernel
theorem dX5_readToken_162 : decode cX5_readToken 162 = .ok (.iconst 1, 1) := by decide +kernel
theorem dX5_readToken_163 : decode cX5_readToken 163 = .ok (.iadd, 1) := by decide +kernel
theorem dX5_readToken_164 : decode cX5_readToken 164 = .ok (.putfield 21, 3) := by decide +kernel
theorem dX5_readToken_167 : decode cX5_readToken 167 = .ok (.aload_n 0, 1) := by decide +kernel
theorem dX5_readToken_168 : decode cX5_readToken 168 = .ok (.iconst 3, 1) := by decide +kernel
theorem dX5_readToken_169 : decode cX5_readToken 169 = .ok (.putfield 38, 3) := by decide +kernel
theorem dX5_readToken_172 : decode cX5_readToken 172 = .ok (.aload_n 0, 1) := by decide +kernel
theorem dX5_readToken_173 : decode cX5_readToken 173 = .ok (.getfield 10, 3) := by decide +kernel
theorem dX5_readToken_176 : decode cX5_readToken 176 = .ok (.aload_n 0, 1) := by decide +kernel
theorem dX5_readToken_177 : decode cX5_readToken 177 = .ok (.getfield 105, 3) := by decide +kernel
theorem dX5_readToken_180 : decode cX5_readToken 180 = .ok (.bipush 59, 2) := by decide +kernel
theorem dX5_readToken_182 : decode cX5_readToken 182 = .ok (.bipush 59, 2) := by decide +kernel
theorem dX5_readToken_184 : decode cX5_readToken 184 = .ok (.invokevirtual 111, 3) := by decide +kernel
theorem dX5_readToken_187 : decode cX5_readToken 187 = .ok (.ifCond .ne 11, 3) := by decide +kernel
theorem dX5_readToken_190 : decode cX5_readToken 190 = .ok (.aload_n 0, 1) := by decide +kernel
theorem dX5_readToken_191 : decode cX5_readToken 191 = .ok (.iconst 1, 1) := by decide +kernel
theorem dX5_readToken_192 : decode cX5_readToken 192 = .ok (.invokevirtual 67, 3) := by decide +kernel
theorem dX5_readToken_195 : decode cX5_readToken 195 = .ok (.ifCond .eq 7, 3) := by decide +kernel
theorem dX5_readToken_198 : decode cX5_readToken 198 = .ok (.iconst 1, 1) := by decide +kernel
theorem dX5_readToken_199 : decode cX5_readToken 199 = .ok (.goto 4, 3) := by decide +kernel
theorem dX5_readToken_202 : decode cX5_readToken 202 = .ok (.iconst 0, 1) := by decide +kernel
theorem dX5_readToken_203 : decode cX5_readToken 203 = .ok (.ireturn, 1) := by decide +kernel
theorem dX5_placeBehindAll_0 : decode cX5_placeBehindAll 0 = .ok (.iload_n 1, 1) := by decide +kernel
theorem dX5_placeBehindAll_1 : decode cX5_placeBehindAll 1 = .ok (.istore 4, 2) := by decide +kernel
theorem dX5_placeBehindAll_3 : decode cX5_placeBehindAll 3 = .ok (.iload 4, 2) := by decide +kernel
theorem dX5_placeBehindAll_5 : decode cX5_placeBehindAll 5 = .ok (.aload_n 0, 1) := by decide +kernel
theorem dX5_placeBehindAll_6 : decode cX5_placeBehindAll 6 = .ok (.getfield 10, 3) := by decide +kernel
theorem dX5_placeBehindAll_9 : decode cX5_placeBehindAll 9 = .ok (.getfield 108, 3) := by decide +kernel
theorem dX5_placeBehindAll_12 : decode cX5_placeBehindAll 12 = .ok (.if_icmp .ge 37, 3) := by decide +kernel
theorem dX5_placeBehindAll_15 : decode cX5_placeBehindAll 15 = .ok (.aload_n 0, 1) := by decide +kernel
theorem dX5_placeBehindAll_16 : decode cX5_placeBehindAll 16 = .ok (.getfield 10, 3) := by decide +kernel
theorem dX5_placeBehindAll_19 : decode cX5_placeBehindAll 19 = .ok (.getfield 117, 3) := by decide +kernel
theorem dX5_placeBehindAll_22 : decode cX5_placeBehindAll 22 = .ok (.iload 4, 2) := by decide +kernel
theorem dX5_placeBehindAll_24 : decode cX5_placeBehindAll 24 = .ok (.baload, 1) := by decide +kernel
theorem dX5_placeBehindAll_25 : decode cX5_placeBehindAll 25 = .ok (.iload_n 2, 1) := by decide +kernel
theorem dX5_placeBehindAll_26 : decode cX5_placeBehindAll 26 = .ok (.if_icmp .lt 23, 3) := by decide +kernel
theorem dX5_placeBehindAll_29 : decode cX5_placeBehindAll 29 = .ok (.aload_n 0, 1) := by decide +kernel
theorem dX5_placeBehindAll_30 : decode cX5_placeBehindAll 30 = .ok (.getfield 10, 3) := by decide +kernel
theorem dX5_placeBehindAll_33 : decode cX5_placeBehindAll 33 = .ok (.getfield 117, 3) := by decide +kernel
theorem dX5_placeBehindAll_36 : decode cX5_placeBehindAll 36 = .ok (.iload 4, 2) := by decide +kernel
theorem dX5_placeBehindAll_38 : decode cX5_placeBehindAll 38 = .ok (.baload, 1) := by decide +kernel
theorem dX5_placeBehindAll_39 : decode cX5_placeBehindAll 39 = .ok (.iload_n 3, 1) := by decide +kernel
theorem dX5_placeBehindAll_40 : decode cX5_placeBehindAll 40 = .ok (.if_icmp .gt 9, 3) := by decide +kernel
theorem dX5_placeBehindAll_43 : decode cX5_placeBehindAll 43 = .ok (.iinc 4 1, 3) := by decide +kernel
theorem dX5_placeBehindAll_46 : decode cX5_placeBehindAll 46 = .ok (.goto (-43), 3) := by decide +kernel
theorem dX5_placeBehindAll_49 : decode cX5_placeBehindAll 49 = .ok (.iload 4, 2) := by decide +kernel
theorem dX5_placeBehindAll_51 : decode cX5_placeBehindAll 51 = .ok (.ireturn, 1) := by decide +kernel
theorem dX5_takeFigures_0 : decode cX5_takeFigures 0 = .ok (.aload_n 0, 1) := by decide +kernel
theorem dX5_takeFigures_1 : decode cX5_takeFigures 1 = .ok (.getfield 21, 3) := by decide +kernel
theorem dX5_takeFigures_4 : decode cX5_takeFigures 4 = .ok (.aload_n 0, 1) := by decide +kernel
theorem dX5_takeFigures_5 : decode cX5_takeFigures 5 = .ok (.getfield 105, 3) := by decide +kernel
theorem dX5_takeFigures_8 : decode cX5_takeFigures 8 = .ok (.isub, 1) := by decide +kernel
theorem dX5_takeFigures_9 : decode cX5_takeFigures 9 = .ok (.iconst 2, 1) := by decide +kernel
theorem dX5_takeFigures_10 : decode cX5_takeFigures 10 = .ok (.if_icmp .le 5, 3) := by decide +kernel
theorem dX5_takeFigures_13 : decode cX5_takeFigures 13 = .ok (.iconst 0, 1) := by decide +kernel
theorem dX5_takeFigures_14 : decode cX5_takeFigures 14 = .ok (.ireturn, 1) := by decide +kernel
theorem dX5_takeFigures_15 : decode cX5_takeFigures 15 = .ok (.aload_n 0, 1) := by decide +kernel
theorem dX5_takeFigures_16 : decode cX5_takeFigures 16 = .ok (.iconst 0, 1) := by decide +kernel
theorem dX5_takeFigures_17 : decode cX5_takeFigures 17 = .ok (.putfield 81, 3) := by decide +kernel
theorem dX5_takeFigures_20 : decode cX5_takeFigures 20 = .ok (.aload_n 0, 1) := by decide +kernel
theorem dX5_takeFigures_21 : decode cX5_takeFigures 21 = .ok (.getfield 105, 3) := by decide +kernel
theorem dX5_takeFigures_24 : decode cX5_takeFigures 24 = .ok (.istore_n 1, 1) := by decide +kernel
theorem dX5_takeFigures_25 : decode cX5_takeFigures 25 = .ok (.iload_n 1, 1) := by decide +kernel
theorem dX5_takeFigures_26 : decode cX5_takeFigures 26 = .ok (.aload_n 0, 1) := by decide +kernel
theorem dX5_takeFigures_27 : decode cX5_takeFigures 27 = .ok (.getfield 21, 3) := by decide +kernel
theorem dX5_takeFigures_30 : decode cX5_takeFigures 30 = .ok (.if_icmp .ge 44, 3) := by decide +kernel
theorem dX5_takeFigures_33 : decode cX5_takeFigures 33 = .ok (.iload_n 1, 1) := by decide +kernel
theorem dX5_takeFigures_34 : decode cX5_takeFigures 34 = .ok (.aload_n 0, 1) := by decide +kernel
theorem dX5_takeFigures_35 : decode cX5_takeFigures 35 = .ok (.getfield 10, 3) := by decide +kernel
theorem dX5_takeFigures_38 : decode cX5_takeFigures 38 = .ok (.getfield 108, 3) := by decide +kernel
theorem dX5_takeFigures_41 : decode cX5_takeFigures 41 = .ok (.if_icmp .ge 33, 3) := by decide +kernel
theorem dX5_takeFigures_44 : decode cX5_takeFigures 44 = .ok (.aload_n 0, 1) := by decide +kernel
theorem dX5_takeFigures_45 : decode cX5_takeFigures 45 = .ok (.aload_n 0, 1) := by decide +kernel
theorem dX5_takeFigures_46 : decode cX5_takeFigures 46 = .ok (.getfield 81, 3) := by decide +kernel
theorem dX5_takeFigures_49 : decode cX5_takeFigures 49 = .ok (.bipush 10, 2) := by decide +kernel
theorem dX5_takeFigures_51 : decode cX5_takeFigures 51 = .ok (.imul, 1) := by decide +kernel
theorem dX5_takeFigures_52 : decode cX5_takeFigures 52 = .ok (.aload_n 0, 1) := by decide +kernel
theorem dX5_takeFigures_53 : decode cX5_takeFigures 53 = .ok (.getfield 10, 3) := by decide +kernel
theorem dX5_takeFigures_56 : decode cX5_takeFigures 56 = .ok (.getfield 117, 3) := by decide +kernel
theorem dX5_takeFigures_59 : decode cX5_takeFigures 59 = .ok (.iload_n 1, 1) := by decide +kernel
theorem dX5_takeFigures_60 : decode cX5_takeFigures 60 = .ok (.baload, 1) := by decide +kernel
theorem dX5_takeFigures_61 : decode cX5_takeFigures 61 = .ok (.iadd, 1) := by decide +kernel
theorem dX5_takeFigures_62 : decode cX5_takeFigures 62 = .ok (.bipush 48, 2) := by decide +kernel
theorem dX5_takeFigures_64 : decode cX5_takeFigures 64 = .ok (.isub, 1) := by decide +kernel
theorem dX5_takeFigures_65 : decode cX5_takeFigures 65 = .ok (.putfield 81, 3) := by decide +kernel
theorem dX5_takeFigures_68 : decode cX5_takeFigures 68 = .ok (.iinc 1 1, 3) := by decide +kernel
theorem dX5_takeFigures_71 : decode cX5_takeFigures 71 = .ok (.goto (-46), 3) := by decide +kernel
theorem dX5_takeFigures_74 : decode cX5_takeFigures 74 = .ok (.iconst 1, 1) := by decide +kernel
theorem dX5_takeFigures_75 : decode cX5_takeFigures 75 = .ok (.ireturn, 1) := by decide +kernel
theorem dX5_isName_0 : decode cX5_isName 0 = .ok (.aload_n 0, 1) := by decide +kernel
theorem dX5_isName_1 : decode cX5_isName 1 = .ok (.getfield 38, 3) := by decide +kernel
theorem dX5_isName_4 : decode cX5_isName 4 = .ok (.iconst 1, 1) := by decide +kernel
theorem dX5_isName_5 : decode cX5_isName 5 = .ok (.if_icmp .ne 19, 3) := by decide +kernel
theorem dX5_isName_8 : decode cX5_isName 8 = .ok (.aload_n 0, 1) := by decide +kernel
theorem dX5_isName_9 : decode cX5_isName 9 = .ok (.getfield 21, 3) := by decide +kernel
theorem dX5_isName_12 : decode cX5_isName 12 = .ok (.aload_n 0, 1) := by decide +kernel
theorem dX5_isName_13 : decode cX5_isName 13 = .ok (.getfield 105, 3) := by decide +kernel
theorem dX5_isName_16 : decode cX5_isName 16 = .ok (.isub, 1) := by decide +kernel
theorem dX5_isName_17 : decode cX5_isName 17 = .ok (.aload_n 1, 1) := by decide +kernel
theorem dX5_isName_18 : decode cX5_isName 18 = .ok (.invokevirtual 121, 3) := by decide +kernel
theorem dX5_isName_21 : decode cX5_isName 21 = .ok (.if_icmp .eq 5, 3) := by decide +kernel
theorem dX5_isName_24 : decode cX5_isName 24 = .ok (.iconst 0, 1) := by decide +kernel
theorem dX5_isName_25 : decode cX5_isName 25 = .ok (.ireturn, 1) := by decide +kernel
theorem dX5_isName_26 : decode cX5_isName 26 = .ok (.iconst 0, 1) := by decide +kernel
theorem dX5_isName_27 : decode cX5_isName 27 = .ok (.istore_n 2, 1) := by decide +kernel
theorem dX5_isName_28 : decode cX5_isName 28 = .ok (.iload_n 2, 1) := by decide +kernel
theorem dX5_isName_29 : decode cX5_isName 29 = .ok (.aload_n 1, 1) := by decide +kernel
theorem dX5_isName_30 : decode cX5_isName 30 = .ok (.invokevirtual 121, 3) := by decide +kernel
theorem dX5_isName_33 : decode cX5_isName 33 = .ok (.if_icmp .ge 37, 3) := by decide +kernel
theorem dX5_isName_36 : decode cX5_isName 36 = .ok (.aload_n 0, 1) := by decide +kernel
theorem dX5_isName_37 : decode cX5_isName 37 = .ok (.getfield 10, 3) := by decide +kernel
theorem dX5_isName_40 : decode cX5_isName 40 = .ok (.aload_n 0, 1) := by decide +kernel
theorem dX5_isName_41 : decode cX5_isName 41 = .ok (.getfield 105, 3) := by decide +kernel
theorem dX5_isName_44 : decode cX5_isName 44 = .ok (.iload_n 2, 1) := by decide +kernel
theorem dX5_isName_45 : decode cX5_isName 45 = .ok (.iadd, 1) := by decide +kernel
theorem dX5_isName_46 : decode cX5_isName 46 = .ok (.aload_n 1, 1) := by decide +kernel
theorem dX5_isName_47 : decode cX5_isName 47 = .ok (.iload_n 2, 1) := by decide +kernel
theorem dX5_isName_48 : decode cX5_isName 48 = .ok (.invokevirtual 126, 3) := by decide +kernel
theorem dX5_isName_51 : decode cX5_isName 51 = .ok (.aload_n 1, 1) := by decide +kernel
theorem dX5_isName_52 : decode cX5_isName 52 = .ok (.iload_n 2, 1) := by decide +kernel
theorem dX5_isName_53 : decode cX5_isName 53 = .ok (.invokevirtual 126, 3) := by decide +kernel
theorem dX5_isName_56 : decode cX5_isName 56 = .ok (.invokevirtual 111, 3) := by decide +kernel
theorem dX5_isName_59 : decode cX5_isName 59 = .ok (.ifCond .ne 5, 3) := by decide +kernel
theorem dX5_isName_62 : decode cX5_isName 62 = .ok (.iconst 0, 1) := by decide +kernel
theorem dX5_isName_63 : decode cX5_isName 63 = .ok (.ireturn, 1) := by decide +kernel
theorem dX5_isName_64 : decode cX5_isName 64 = .ok (.iinc 2 1, 3) := by decide +kernel
theorem dX5_isName_67 : decode cX5_isName 67 = .ok (.goto (-39), 3) := by decide +kernel
theorem dX5_isName_70 : decode cX5_isName 70 = .ok (.iconst 1, 1) := by decide +kernel
theorem dX5_isName_71 : decode cX5_isName 71 = .ok (.ireturn, 1) := by decide +kernel
theorem dX5_nameOfKind_0 : decode cX5_nameOfKind 0 = .ok (.iload_n 0, 1) := by decide +kernel
theorem dX5_nameOfKind_1 : decode cX5_nameOfKind 1 = .ok (.tableswitch 36 0 2 #[27, 30, 33], 27) := by decide +kernel
theorem dX5_nameOfKind_28 : decode cX5_nameOfKind 28 = .ok (.ldc 130, 2) := by decide +kernel
theorem dX5_nameOfKind_30 : decode cX5_nameOfKind 30 = .ok (.areturn, 1) := by decide +kernel
theorem dX5_nameOfKind_31 : decode cX5_nameOfKind 31 = .ok (.ldc 132, 2) := by decide +kernel
theorem dX5_nameOfKind_33 : decode cX5_nameOfKind 33 = .ok (.areturn, 1) := by decide +kernel
theorem dX5_nameOfKind_34 : decode cX5_nameOfKind 34 = .ok (.ldc 134, 2) := by decide +kernel
theorem dX5_nameOfKind_36 : decode cX5_nameOfKind 36 = .ok (.areturn, 1) := by decide +kernel
theorem dX5_nameOfKind_37 : decode cX5_nameOfKind 37 = .ok (.ldc 136, 2) := by decide +kernel
theorem dX5_nameOfKind_39 : decode cX5_nameOfKind 39 = .ok (.areturn, 1) := by decide +kernel
theorem dX5_refuse_0 : decode cX5_refuse 0 = .ok (.aload_n 0, 1) := by decide +kernel
theorem dX5_refuse_1 : decode cX5_refuse 1 = .ok (.iload_n 1, 1) := by decide +kernel
theorem dX5_refuse_2 : decode cX5_refuse 2 = .ok (.putfield 28, 3) := by decide +kernel
theorem dX5_refuse_5 : decode cX5_refuse 5 = .ok (.aload_n 0, 1) := by decide +kernel
theorem dX5_refuse_6 : decode cX5_refuse 6 = .ok (.aload_n 0, 1) := by decide +kernel
theorem dX5_refuse_7 : decode cX5_refuse 7 = .ok (.getfield 105, 3) := by decide +kernel
theorem dX5_refuse_10 : decode cX5_refuse 10 = .ok (.putfield 31, 3) := by decide +kernel
theorem dX5_refuse_13 : decode cX5_refuse 13 = .ok (.iconst 0, 1) := by decide +kernel
theorem dX5_refuse_14 : decode cX5_refuse 14 = .ok (.ireturn, 1) := by decide +kernel
theorem dX6_init_0 : decode cX6_init 0 = .ok (.aload_n 0, 1) := by decide +kernel
theorem dX6_init_1 : decode cX6_init 1 = .ok (.invokespecial 1, 3) := by decide +kernel
theorem dX6_init_4 : decode cX6_init 4 = .ok (.aload_n 0, 1) := by decide +kernel
theorem dX6_init_5 : decode cX6_init 5 = .ok (.new 7, 3) := by decide +kernel
theorem dX6_init_8 : decode cX6_init 8 = .ok (.dup, 1) := by decide +kernel
theorem dX6_init_9 : decode cX6_init 9 = .ok (.invokespecial 9, 3) := by decide +kernel
theorem dX6_init_12 : decode cX6_init 12 = .ok (.putfield 10, 3) := by decide +kernel
theorem dX6_init_15 : decode cX6_init 15 = .ok (.return_, 1) := by decide +kernel
theorem dX6_begin_0 : decode cX6_begin 0 = .ok (.aload_n 0, 1) := by decide +kernel
theorem dX6_begin_1 : decode cX6_begin 1 = .ok (.getfield 10, 3) := by decide +kernel
theorem dX6_begin_4 : decode cX6_begin 4 = .ok (.aload_n 1, 1) := by decide +kernel
theorem dX6_begin_5 : decode cX6_begin 5 = .ok (.invokevirtual 16, 3) := by decide +kernel
theorem dX6_begin_8 : decode cX6_begin 8 = .ok (.aload_n 0, 1) := by decide +kernel
theorem dX6_begin_9 : decode cX6_begin 9 = .ok (.iconst 0, 1) := by decide +kernel
theorem dX6_begin_10 : decode cX6_begin 10 = .ok (.putfield 20, 3) := by decide +kernel
theorem dX6_begin_13 : decode cX6_begin 13 = .ok (.aload_n 0, 1) := by decide +kernel
theorem dX6_begin_14 : decode cX6_begin 14 = .ok (.iconst 0, 1) := by decide +kernel
theorem dX6_begin_15 : decode cX6_begin 15 = .ok (.putfield 24, 3) := by decide +kernel
theorem dX6_begin_18 : decode cX6_begin 18 = .ok (.aload_n 0, 1) := by decide +kernel
theorem dX6_begin_19 : decode cX6_begin 19 = .ok (.iconst 0, 1) := by decide +kernel
theorem dX6_begin_20 : decode cX6_begin 20 = .ok (.putfield 27, 3) := by decide +kernel
theorem dX6_begin_23 : decode cX6_begin 23 = .ok (.aload_n 0, 1) := by decide +kernel
theorem dX6_begin_24 : decode cX6_begin 24 = .ok (.iconst 0, 1) := by decide +kernel
theorem dX6_begin_25 : decode cX6_begin 25 = .ok (.putfield 30, 3) := by decide +kernel
theorem dX6_begin_28 : decode cX6_begin 28 = .ok (.aload_n 0, 1) := by decide +kernel
theorem dX6_begin_29 : decode cX6_begin 29 = .ok (.iconst 0, 1) := by decide +kernel
theorem dX6_begin_30 : decode cX6_begin 30 = .ok (.putfield 33, 3) := by decide +kernel
theorem dX6_begin_33 : decode cX6_begin 33 = .ok (.return_, 1) := by decide +kernel
theorem dX6_pass_0 : decode cX6_pass 0 = .ok (.iconst 0, 1) := by decide +kernel
theorem dX6_pass_1 : decode cX6_pass 1 = .ok (.istore_n 2, 1) := by decide +kernel
theorem dX6_pass_2 : decode cX6_pass 2 = .ok (.iload_n 2, 1) := by decide +kernel
theorem dX6_pass_3 : decode cX6_pass 3 = .ok (.iload_n 1, 1) := by decide +kernel
theorem dX6_pass_4 : decode cX6_pass 4 = .ok (.if_icmp .ge 14, 3) := by decide +kernel
theorem dX6_pass_7 : decode cX6_pass 7 = .ok (.aload_n 0, 1) := by decide +kernel
theorem dX6_pass_8 : decode cX6_pass 8 = .ok (.iconst 0, 1) := by decide +kernel
theorem dX6_pass_9 : decode cX6_pass 9 = .ok (.invokevirtual 36, 3) := by decide +kernel
theorem dX6_pass_12 : decode cX6_pass 12 = .ok (.iinc 2 1, 3) := by decide +kernel
theorem dX6_pass_15 : decode cX6_pass 15 = .ok (.goto (-13), 3) := by decide +kernel
theorem dX6_pass_18 : decode cX6_pass 18 = .ok (.return_, 1) := by decide +kernel
theorem dX6_passOne_0 : decode cX6_passOne 0 = .ok (.aload_n 0, 1) := by decide +kernel
theorem dX6_passOne_1 : decode cX6_passOne 1 = .ok (.dup, 1) := by decide +kernel
theorem dX6_passOne_2 : decode cX6_passOne 2 = .ok (.getfield 24, 3) := by decide +kernel
theorem dX6_passOne_5 : decode cX6_passOne 5 = .ok (.aload_n 0, 1) := by decide +kernel
theorem dX6_passOne_6 : decode cX6_passOne 6 = .ok (.getfield 10, 3) := by decide +kernel
theorem dX6_passOne_9 : decode cX6_passOne 9 = .ok (.iload_n 1, 1) := by decide +kernel
theorem dX6_passOne_10 : decode cX6_passOne 10 = .ok (.invokevirtual 40, 3) := by decide +kernel
theorem dX6_passOne_13 : decode cX6_passOne 13 = .ok (.iadd, 1) := by decide +kernel
theorem dX6_passOne_14 : decode cX6_passOne 14 = .ok (.putfield 24, 3) := by decide +kernel
theorem dX6_passOne_17 : decode cX6_passOne 17 = .ok (.aload_n 0, 1) := by decide +kernel
theorem dX6_passOne_18 : decode cX6_passOne 18 = .ok (.dup, 1) := by decide +kernel
theorem dX6_passOne_19 : decode cX6_passOne 19 = .ok (.getfield 20, 3) := by decide +kernel
theorem dX6_passOne_22 : decode cX6_passOne 22 = .ok (.iconst 1, 1) := by decide +kernel
theorem dX6_passOne_23 : decode cX6_passOne 23 = .ok (.iadd, 1) := by decide +kernel
theorem dX6_passOne_24 : decode cX6_passOne 24 = .ok (.putfield 20, 3) := by decide +kernel
theorem dX6_passOne_27 : decode cX6_passOne 27 = .ok (.aload_n 0, 1) := by decide +kernel
theorem dX6_passOne_28 : decode cX6_passOne 28 = .ok (.getfield 10, 3) := by decide +kernel
theorem dX6_passOne_31 : decode cX6_passOne 31 = .ok (.getfield 44, 3) := by decide +kernel
theorem dX6_passOne_34 : decode cX6_passOne 34 = .ok (.istore_n 2, 1) := by decide +kernel
theorem dX6_passOne_35 : decode cX6_passOne 35 = .ok (.aload_n 0, 1) := by decide +kernel
theorem dX6_passOne_36 : decode cX6_passOne 36 = .ok (.dup, 1) := by decide +kernel
theorem dX6_passOne_37 : decode cX6_passOne 37 = .ok (.getfield 27, 3) := by decide +kernel
theorem dX6_passOne_40 : decode cX6_passOne 40 = .ok (.iload_n 2, 1) := by decide +kernel
theorem dX6_passOne_41 : decode cX6_passOne 41 = .ok (.invokestatic 47, 3) := by decide +kernel
theorem dX6_passOne_44 : decode cX6_passOne 44 = .ok (.iadd, 1) := by decide +kernel
theorem dX6_passOne_45 : decode cX6_passOne 45 = .ok (.putfield 27, 3) := by decide +kernel
theorem dX6_passOne_48 : decode cX6_passOne 48 = .ok (.aload_n 0, 1) := by decide +kernel
theorem dX6_passOne_49 : decode cX6_passOne 49 = .ok (.dup, 1) := by decide +kernel
theorem dX6_passOne_50 : decode cX6_passOne 50 = .ok (.getfield 30, 3) := by decide +kernel
theorem dX6_passOne_53 : decode cX6_passOne 53 = .ok (.iload_n 2, 1) := by decide +kernel
theorem dX6_passOne_54 : decode cX6_passOne 54 = .ok (.ior, 1) := by decide +kernel
theorem dX6_passOne_55 : decode cX6_passOne 55 = .ok (.putfield 30, 3) := by decide +kernel
theorem dX6_passOne_58 : decode cX6_passOne 58 = .ok (.iload_n 2, 1) := by decide +kernel
theorem dX6_passOne_59 : decode cX6_passOne 59 = .ok (.ifCond .eq 18, 3) := by decide +kernel
theorem dX6_passOne_62 : decode cX6_passOne 62 = .ok (.aload_n 0, 1) := by decide +kernel
theorem dX6_passOne_63 : decode cX6_passOne 63 = .ok (.getfield 33, 3) := by decide +kernel
theorem dX6_passOne_66 : decode cX6_passOne 66 = .ok (.ifCond .ne 11, 3) := by decide +kernel
theorem dX6_passOne_69 : decode cX6_passOne 69 = .ok (.aload_n 0, 1) := by decide +kernel
theorem dX6_passOne_70 : decode cX6_passOne 70 = .ok (.aload_n 0, 1) := by decide +kernel
theorem dX6_passOne_71 : decode cX6_passOne 71 = .ok (.getfield 20, 3) := by decide +kernel
theorem dX6_passOne_74 : decode cX6_passOne 74 = .ok (.putfield 33, 3) := by decide +kernel
theorem dX6_passOne_77 : decode cX6_passOne 77 = .ok (.return_, 1) := by decide +kernel
theorem dX6_wasCaught_0 : decode cX6_wasCaught 0 = .ok (.aload_n 0, 1) := by decide +kernel
theorem dX6_wasCaught_1 : decode cX6_wasCaught 1 = .ok (.getfield 30, 3) := by decide +kernel
theorem dX6_wasCaught_4 : decode cX6_wasCaught 4 = .ok (.iload_n 1, 1) := by decide +kernel
theorem dX6_wasCaught_5 : decode cX6_wasCaught 5 = .ok (.ishr, 1) := by decide +kernel
theorem dX6_wasCaught_6 : decode cX6_wasCaught 6 = .ok (.iconst 1, 1) := by decide +kernel
theorem dX6_wasCaught_7 : decode cX6_wasCaught 7 = .ok (.iand, 1) := by decide +kernel
theorem dX6_wasCaught_8 : decode cX6_wasCaught 8 = .ok (.iconst 1, 1) := by decide +kernel
theorem dX6_wasCaught_9 : decode cX6_wasCaught 9 = .ok (.if_icmp .ne 7, 3) := by decide +kernel
theorem dX6_wasCaught_12 : decode cX6_wasCaught 12 = .ok (.iconst 1, 1) := by decide +kernel
theorem dX6_wasCaught_13 : decode cX6_wasCaught 13 = .ok (.goto 4, 3) := by decide +kernel
theorem dX6_wasCaught_16 : decode cX6_wasCaught 16 = .ok (.iconst 0, 1) := by decide +kernel
theorem dX6_wasCaught_17 : decode cX6_wasCaught 17 = .ok (.ireturn, 1) := by decide +kernel
theorem dJ6_bitCount_0f7a4_0 : decode cJ6_bitCount_0f7a4 0 = .ok (.iload_n 0, 1) := by decide +kernel
theorem dJ6_bitCount_0f7a4_1 : decode cJ6_bitCount_0f7a4 1 = .ok (.iload_n 0, 1) := by decide +kernel
theorem dJ6_bitCount_0f7a4_2 : decode cJ6_bitCount_0f7a4 2 = .ok (.iconst 1, 1) := by decide +kernel
theorem dJ6_bitCount_0f7a4_3 : decode cJ6_bitCount_0f7a4 3 = .ok (.iushr, 1) := by decide +kernel
theorem dJ6_bitCount_0f7a4_4 : decode cJ6_bitCount_0f7a4 4 = .ok (.ldc_w 265, 3) := by decide +kernel
theorem dJ6_bitCount_0f7a4_7 : decode cJ6_bitCount_0f7a4 7 = .ok (.iand, 1) := by decide +kernel
theorem dJ6_bitCount_0f7a4_8 : decode cJ6_bitCount_0f7a4 8 = .ok (.isub, 1) := by decide +kernel
theorem dJ6_bitCount_0f7a4_9 : decode cJ6_bitCount_0f7a4 9 = .ok (.istore_n 0, 1) := by decide +kernel
theorem dJ6_bitCount_0f7a4_10 : decode cJ6_bitCount_0f7a4 10 = .ok (.iload_n 0, 1) := by decide +kernel
theorem dJ6_bitCount_0f7a4_11 : decode cJ6_bitCount_0f7a4 11 = .ok (.ldc_w 266, 3) := by decide +kernel
theorem dJ6_bitCount_0f7a4_14 : decode cJ6_bitCount_0f7a4 14 = .ok (.iand, 1) := by decide +kernel
theorem dJ6_bitCount_0f7a4_15 : decode cJ6_bitCount_0f7a4 15 = .ok (.iload_n 0, 1) := by decide +kernel
theorem dJ6_bitCount_0f7a4_16 : decode cJ6_bitCount_0f7a4 16 = .ok (.iconst 2, 1) := by decide +kernel
theorem dJ6_bitCount_0f7a4_17 : decode cJ6_bitCount_0f7a4 17 = .ok (.iushr, 1) := by decide +kernel
theorem dJ6_bitCount_0f7a4_18 : decode cJ6_bitCount_0f7a4 18 = .ok (.ldc_w 266, 3) := by decide +kernel
theorem dJ6_bitCount_0f7a4_21 : decode cJ6_bitCount_0f7a4 21 = .ok (.iand, 1) := by decide +kernel
theorem dJ6_bitCount_0f7a4_22 : decode cJ6_bitCount_0f7a4 22 = .ok (.iadd, 1) := by decide +kernel
theorem dJ6_bitCount_0f7a4_23 : decode cJ6_bitCount_0f7a4 23 = .ok (.istore_n 0, 1) := by decide +kernel
theorem dJ6_bitCount_0f7a4_24 : decode cJ6_bitCount_0f7a4 24 = .ok (.iload_n 0, 1) := by decide +kernel
theorem dJ6_bitCount_0f7a4_25 : decode cJ6_bitCount_0f7a4 25 = .ok (.iload_n 0, 1) := by decide +kernel
theorem dJ6_bitCount_0f7a4_26 : decode cJ6_bitCount_0f7a4 26 = .ok (.iconst 4, 1) := by decide +kernel
theorem dJ6_bitCount_0f7a4_27 : decode cJ6_bitCount_0f7a4 27 = .ok (.iushr, 1) := by decide +kernel
theorem dJ6_bitCount_0f7a4_28 : decode cJ6_bitCount_0f7a4 28 = .ok (.iadd, 1) := by decide +kernel
theorem dJ6_bitCount_0f7a4_29 : decode cJ6_bitCount_0f7a4 29 = .ok (.ldc_w 267, 3) := by decide +kernel
theorem dJ6_bitCount_0f7a4_32 : decode cJ6_bitCount_0f7a4 32 = .ok (.iand, 1) := by decide +kernel
theorem dJ6_bitCount_0f7a4_33 : decode cJ6_bitCount_0f7a4 33 = .ok (.istore_n 0, 1) := by decide +kernel
theorem dJ6_bitCount_0f7a4_34 : decode cJ6_bitCount_0f7a4 34 = .ok (.iload_n 0, 1) := by decide +kernel
theorem dJ6_bitCount_0f7a4_35 : decode cJ6_bitCount_0f7a4 35 = .ok (.iload_n 0, 1) := by decide +kernel
theorem dJ6_bitCount_0f7a4_36 : decode cJ6_bitCount_0f7a4 36 = .ok (.bipush 8, 2) := by decide +kernel
theorem dJ6_bitCount_0f7a4_38 : decode cJ6_bitCount_0f7a4 38 = .ok (.iushr, 1) := by decide +kernel
theorem dJ6_bitCount_0f7a4_39 : decode cJ6_bitCount_0f7a4 39 = .ok (.iadd, 1) := by decide +kernel
theorem dJ6_bitCount_0f7a4_40 : decode cJ6_bitCount_0f7a4 40 = .ok (.istore_n 0, 1) := by decide +kernel
theorem dJ6_bitCount_0f7a4_41 : decode cJ6_bitCount_0f7a4 41 = .ok (.iload_n 0, 1) := by decide +kernel
theorem dJ6_bitCount_0f7a4_42 : decode cJ6_bitCount_0f7a4 42 = .ok (.iload_n 0, 1) := by decide +kernel
theorem dJ6_bitCount_0f7a4_43 : decode cJ6_bitCount_0f7a4 43 = .ok (.bipush 16, 2) := by decide +kernel
theorem dJ6_bitCount_0f7a4_45 : decode cJ6_bitCount_0f7a4 45 = .ok (.iushr, 1) := by decide +kernel
theorem dJ6_bitCount_0f7a4_46 : decode cJ6_bitCount_0f7a4 46 = .ok (.iadd, 1) := by decide +kernel
theorem dJ6_bitCount_0f7a4_47 : decode cJ6_bitCount_0f7a4 47 = .ok (.istore_n 0, 1) := by decide +kernel
theorem dJ6_bitCount_0f7a4_48 : decode cJ6_bitCount_0f7a4 48 = .ok (.iload_n 0, 1) := by decide +kernel
theorem dJ6_bitCount_0f7a4_49 : decode cJ6_bitCount_0f7a4 49 = .ok (.bipush 63, 2) := by decide +kernel
theorem dJ6_bitCount_0f7a4_51 : decode cJ6_bitCount_0f7a4 51 = .ok (.iand, 1) := by decide +kernel
theorem dJ6_bitCount_0f7a4_52 : decode cJ6_bitCount_0f7a4 52 = .ok (.ireturn, 1) := by decide +kernel
theorem dJ9_max_7cf53_0 : decode cJ9_max_7cf53 0 = .ok (.iload_n 0, 1) := by decide +kernel
theorem dJ9_max_7cf53_1 : decode cJ9_max_7cf53 1 = .ok (.iload_n 1, 1) := by decide +kernel
theorem dJ9_max_7cf53_2 : decode cJ9_max_7cf53 2 = .ok (.if_icmp .lt 7, 3) := by decide +kernel
theorem dJ9_max_7cf53_5 : decode cJ9_max_7cf53 5 = .ok (.iload_n 0, 1) := by decide +kernel
theorem dJ9_max_7cf53_6 : decode cJ9_max_7cf53 6 = .ok (.goto 4, 3) := by decide +kernel
theorem dJ9_max_7cf53_9 : decode cJ9_max_7cf53 9 = .ok (.iload_n 1, 1) := by decide +kernel
theorem dJ9_max_7cf53_10 : decode cJ9_max_7cf53 10 = .ok (.ireturn, 1) := by decide +kernel
theorem dJ9_min_7cf53_0 : decode cJ9_min_7cf53 0 = .ok (.iload_n 0, 1) := by decide +kernel
theorem dJ9_min_7cf53_1 : decode cJ9_min_7cf53 1 = .ok (.iload_n 1, 1) := by decide +kernel
theorem dJ9_min_7cf53_2 : decode cJ9_min_7cf53 2 = .ok (.if_icmp .gt 7, 3) := by decide +kernel
theorem dJ9_min_7cf53_5 : decode cJ9_min_7cf53 5 = .ok (.iload_n 0, 1) := by decide +kernel
theorem dJ9_min_7cf53_6 : decode cJ9_min_7cf53 6 = .ok (.goto 4, 3) := by decide +kernel
theorem dJ9_min_7cf53_9 : decode cJ9_min_7cf53 9 = .ok (.iload_n 1, 1) := by decide +kernel
theorem dJ9_min_7cf53_10 : decode cJ9_min_7cf53 10 = .ok (.ireturn, 1) := by decide +kernel
theorem dJ0_length_8abf5_0 : decode cJ0_length_8abf5 0 = .ok (.aload_n 0, 1) := by decide +kernel
theorem dJ0_length_8abf5_1 : decode cJ0_length_8abf5 1 = .ok (.getfield 9, 3) := by decide +kernel
theorem dJ0_length_8abf5_4 : decode cJ0_length_8abf5 4 = .ok (.arraylength, 1) := by decide +kernel
theorem dJ0_length_8abf5_5 : decode cJ0_length_8abf5 5 = .ok (.aload_n 0, 1) := by decide +kernel
theorem dJ0_length_8abf5_6 : decode cJ0_length_8abf5 6 = .ok (.invokevirtual 335, 3) := by decide +kernel
theorem dJ0_length_8abf5_9 : decode cJ0_length_8abf5 9 = .ok (.ishr, 1) := by decide +kernel
theorem dJ0_length_8abf5_10 : decode cJ0_length_8abf5 10 = .ok (.ireturn, 1) := by decide +kernel
theorem dJ0_charAt_5068e_0 : decode cJ0_charAt_5068e 0 = .ok (.aload_n 0, 1) := by decide +kernel
theorem dJ0_charAt_5068e_1 : decode cJ0_charAt_5068e 1 = .ok (.invokevirtual 492, 3) := by decide +kernel
theorem dJ0_charAt_5068e_4 : decode cJ0_charAt_5068e 4 = .ok (.ifCond .eq 12, 3) := by decide +kernel
theorem dJ0_charAt_5068e_7 : decode cJ0_charAt_5068e 7 = .ok (.aload_n 0, 1) := by decide +kernel
theorem dJ0_charAt_5068e_8 : decode cJ0_charAt_5068e 8 = .ok (.getfield 9, 3) := by decide +kernel
theorem dJ0_charAt_5068e_11 : decode cJ0_charAt_5068e 11 = .ok (.iload_n 1, 1) := by decide +kernel
theorem dJ0_charAt_5068e_12 : decode cJ0_charAt_5068e 12 = .ok (.invokestatic 495, 3) := by decide +kernel
theorem dJ0_charAt_5068e_15 : decode cJ0_charAt_5068e 15 = .ok (.ireturn, 1) := by decide +kernel
theorem dJ0_charAt_5068e_16 : decode cJ0_charAt_5068e 16 = .ok (.aload_n 0, 1) := by decide +kernel
theorem dJ0_charAt_5068e_17 : decode cJ0_charAt_5068e 17 = .ok (.getfield 9, 3) := by decide +kernel
theorem dJ0_charAt_5068e_20 : decode cJ0_charAt_5068e 20 = .ok (.iload_n 1, 1) := by decide +kernel
theorem dJ0_charAt_5068e_21 : decode cJ0_charAt_5068e 21 = .ok (.invokestatic 498, 3) := by decide +kernel
theorem dJ0_charAt_5068e_24 : decode cJ0_charAt_5068e 24 = .ok (.ireturn, 1) := by decide +kernel
theorem dJ0_coder_7d493_0 : decode cJ0_coder_7d493 0 = .ok (.getstatic 38, 3) := by decide +kernel
theorem dJ0_coder_7d493_3 : decode cJ0_coder_7d493 3 = .ok (.ifCond .eq 10, 3) := by decide +kernel
theorem dJ0_coder_7d493_6 : decode cJ0_coder_7d493 6 = .ok (.aload_n 0, 1) := by decide +kernel
theorem dJ0_coder_7d493_7 : decode cJ0_coder_7d493 7 = .ok (.getfield 15, 3) := by decide +kernel
theorem dJ0_coder_7d493_10 : decode cJ0_coder_7d493 10 = .ok (.goto 4, 3) := by decide +kernel
theorem dJ0_coder_7d493_13 : decode cJ0_coder_7d493 13 = .ok (.iconst 1, 1) := by decide +kernel
theorem dJ0_coder_7d493_14 : decode cJ0_coder_7d493 14 = .ok (.ireturn, 1) := by decide +kernel
theorem dJ0_isLatin1_aae02_0 : decode cJ0_isLatin1_aae02 0 = .ok (.getstatic 38, 3) := by decide +kernel
theorem dJ0_isLatin1_aae02_3 : decode cJ0_isLatin1_aae02 3 = .ok (.ifCond .eq 14, 3) := by decide +kernel
theorem dJ0_isLatin1_aae02_6 : decode cJ0_isLatin1_aae02 6 = .ok (.aload_n 0, 1) := by decide +kernel
theorem dJ0_isLatin1_aae02_7 : decode cJ0_isLatin1_aae02 7 = .ok (.getfield 15, 3) := by decide +kernel
theorem dJ0_isLatin1_aae02_10 : decode cJ0_isLatin1_aae02 10 = .ok (.ifCond .ne 7, 3) := by decide +kernel
theorem dJ0_isLatin1_aae02_13 : decode cJ0_isLatin1_aae02 13 = .ok (.iconst 1, 1) := by decide +kernel
theorem dJ0_isLatin1_aae02_14 : decode cJ0_isLatin1_aae02 14 = .ok (.goto 4, 3) := by decide +kernel
theorem dJ0_isLatin1_aae02_17 : decode cJ0_isLatin1_aae02 17 = .ok (.iconst 0, 1) := by decide +kernel
theorem dJ0_isLatin1_aae02_18 : decode cJ0_isLatin1_aae02 18 = .ok (.ireturn, 1) := by decide +kernel
theorem dJ0_checkIndex_df160_0 : decode cJ0_checkIndex_df160 0 = .ok (.iload_n 0, 1) := by decide +kernel
theorem dJ0_checkIndex_df160_1 : decode cJ0_checkIndex_df160 1 = .ok (.iload_n 1, 1) := by decide +kernel
theorem dJ0_checkIndex_df160_2 : decode cJ0_checkIndex_df160 2 = .ok (.getstatic 1053, 3) := by decide +kernel
theorem dJ0_checkIndex_df160_5 : decode cJ0_checkIndex_df160 5 = .ok (.invokestatic 1059, 3) := by decide +kernel
theorem dJ0_checkIndex_df160_8 : decode cJ0_checkIndex_df160 8 = .ok (.pop, 1) := by decide +kernel
theorem dJ0_checkIndex_df160_9 : decode cJ0_checkIndex_df160 9 = .ok (.return_, 1) := by decide +kernel
theorem dJ1_charAt_3b067_0 : decode cJ1_charAt_3b067 0 = .ok (.iload_n 1, 1) := by decide +kernel
theorem dJ1_charAt_3b067_1 : decode cJ1_charAt_3b067 1 = .ok (.aload_n 0, 1) := by decide +kernel
theorem dJ1_charAt_3b067_2 : decode cJ1_charAt_3b067 2 = .ok (.arraylength, 1) := by decide +kernel
theorem dJ1_charAt_3b067_3 : decode cJ1_charAt_3b067 3 = .ok (.invokestatic 9, 3) := by decide +kernel
theorem dJ1_charAt_3b067_6 : decode cJ1_charAt_3b067 6 = .ok (.aload_n 0, 1) := by decide +kernel
theorem dJ1_charAt_3b067_7 : decode cJ1_charAt_3b067 7 = .ok (.iload_n 1, 1) := by decide +kernel
theorem dJ1_charAt_3b067_8 : decode cJ1_charAt_3b067 8 = .ok (.baload, 1) := by decide +kernel
theorem dJ1_charAt_3b067_9 : decode cJ1_charAt_3b067 9 = .ok (.sipush 255, 3) := by decide +kernel
theorem dJ1_charAt_3b067_12 : decode cJ1_charAt_3b067 12 = .ok (.iand, 1) := by decide +kernel
theorem dJ1_charAt_3b067_13 : decode cJ1_charAt_3b067 13 = .ok (.i2c, 1) := by decide +kernel
theorem dJ1_charAt_3b067_14 : decode cJ1_charAt_3b067 14 = .ok (.ireturn, 1) := by decide +kernel
theorem dJ2_getChar_3b067_0 : decode cJ2_getChar_3b067 0 = .ok (.getstatic 44, 3) := by decide +kernel
theorem dJ2_getChar_3b067_3 : decode cJ2_getChar_3b067 3 = .ok (.ifCond .ne 25, 3) := by decide +kernel
theorem dJ2_getChar_3b067_6 : decode cJ2_getChar_3b067 6 = .ok (.iload_n 1, 1) := by decide +kernel
theorem dJ2_getChar_3b067_7 : decode cJ2_getChar_3b067 7 = .ok (.ifCond .lt 11, 3) := by decide +kernel
theorem dJ2_getChar_3b067_10 : decode cJ2_getChar_3b067 10 = .ok (.iload_n 1, 1) := by decide +kernel
theorem dJ2_getChar_3b067_11 : decode cJ2_getChar_3b067 11 = .ok (.aload_n 0, 1) := by decide +kernel
theorem dJ2_getChar_3b067_12 : decode cJ2_getChar_3b067 12 = .ok (.invokestatic 48, 3) := by decide +kernel
theorem dJ2_getChar_3b067_15 : decode cJ2_getChar_3b067 15 = .ok (.if_icmp .lt 13, 3) := by decide +kernel
theorem dJ2_getChar_3b067_18 : decode cJ2_getChar_3b067 18 = .ok (.new 52, 3) := by decide +kernel
theorem dJ2_getChar_3b067_21 : decode cJ2_getChar_3b067 21 = .ok (.dup, 1) := by decide +kernel
theorem dJ2_getChar_3b067_22 : decode cJ2_getChar_3b067 22 = .ok (.ldc 54, 2) := by decide +kernel
theorem dJ2_getChar_3b067_24 : decode cJ2_getChar_3b067 24 = .ok (.invokespecial 56, 3) := by decide +kernel
theorem dJ2_getChar_3b067_27 : decode cJ2_getChar_3b067 27 = .ok (.athrow, 1) := by decide +kernel
theorem dJ2_getChar_3b067_28 : decode cJ2_getChar_3b067 28 = .ok (.iload_n 1, 1) := by decide +kernel
theorem dJ2_getChar_3b067_29 : decode cJ2_getChar_3b067 29 = .ok (.iconst 1, 1) := by decide +kernel
theorem dJ2_getChar_3b067_30 : decode cJ2_getChar_3b067 30 = .ok (.ishl, 1) := by decide +kernel
theorem dJ2_getChar_3b067_31 : decode cJ2_getChar_3b067 31 = .ok (.istore_n 1, 1) := by decide +kernel
theorem dJ2_getChar_3b067_32 : decode cJ2_getChar_3b067 32 = .ok (.aload_n 0, 1) := by decide +kernel
theorem dJ2_getChar_3b067_33 : decode cJ2_getChar_3b067 33 = .ok (.iload_n 1, 1) := by decide +kernel
theorem dJ2_getChar_3b067_34 : decode cJ2_getChar_3b067 34 = .ok (.iinc 1 1, 3) := by decide +kernel
theorem dJ2_getChar_3b067_37 : decode cJ2_getChar_3b067 37 = .ok (.baload, 1) := by decide +kernel
theorem dJ2_getChar_3b067_38 : decode cJ2_getChar_3b067 38 = .ok (.sipush 255, 3) := by decide +kernel
theorem dJ2_getChar_3b067_41 : decode cJ2_getChar_3b067 41 = .ok (.iand, 1) := by decide +kernel
theorem dJ2_getChar_3b067_42 : decode cJ2_getChar_3b067 42 = .ok (.getstatic 59, 3) := by decide +kernel
theorem dJ2_getChar_3b067_45 : decode cJ2_getChar_3b067 45 = .ok (.ishl, 1) := by decide +kernel
theorem dJ2_getChar_3b067_46 : decode cJ2_getChar_3b067 46 = .ok (.aload_n 0, 1) := by decide +kernel
theorem dJ2_getChar_3b067_47 : decode cJ2_getChar_3b067 47 = .ok (.iload_n 1, 1) := by decide +kernel
theorem dJ2_getChar_3b067_48 : decode cJ2_getChar_3b067 48 = .ok (.baload, 1) := by decide +kernel
theorem dJ2_getChar_3b067_49 : decode cJ2_getChar_3b067 49 = .ok (.sipush 255, 3) := by decide +kernel
theorem dJ2_getChar_3b067_52 : decode cJ2_getChar_3b067 52 = .ok (.iand, 1) := by decide +kernel
theorem dJ2_getChar_3b067_53 : decode cJ2_getChar_3b067 53 = .ok (.getstatic 63, 3) := by decide +kernel
theorem dJ2_getChar_3b067_56 : decode cJ2_getChar_3b067 56 = .ok (.ishl, 1) := by decide +kernel
theorem dJ2_getChar_3b067_57 : decode cJ2_getChar_3b067 57 = .ok (.ior, 1) := by decide +kernel
theorem dJ2_getChar_3b067_58 : decode cJ2_getChar_3b067 58 = .ok (.i2c, 1) := by decide +kernel
theorem dJ2_getChar_3b067_59 : decode cJ2_getChar_3b067 59 = .ok (.ireturn, 1) := by decide +kernel
theorem dJ2_length_9d52b_0 : decode cJ2_length_9d52b 0 = .ok (.aload_n 0, 1) := by decide +kernel
theorem dJ2_length_9d52b_1 : decode cJ2_length_9d52b 1 = .ok (.arraylength, 1) := by decide +kernel
theorem dJ2_length_9d52b_2 : decode cJ2_length_9d52b 2 = .ok (.iconst 1, 1) := by decide +kernel
theorem dJ2_length_9d52b_3 : decode cJ2_length_9d52b 3 = .ok (.ishr, 1) := by decide +kernel
theorem dJ2_length_9d52b_4 : decode cJ2_length_9d52b 4 = .ok (.ireturn, 1) := by decide +kernel
theorem dJ2_charAt_3b067_0 : decode cJ2_charAt_3b067 0 = .ok (.iload_n 1, 1) := by decide +kernel
theorem dJ2_charAt_3b067_1 : decode cJ2_charAt_3b067 1 = .ok (.aload_n 0, 1) := by decide +kernel
theorem dJ2_charAt_3b067_2 : decode cJ2_charAt_3b067 2 = .ok (.invokestatic 67, 3) := by decide +kernel
theorem dJ2_charAt_3b067_5 : decode cJ2_charAt_3b067 5 = .ok (.aload_n 0, 1) := by decide +kernel
theorem dJ2_charAt_3b067_6 : decode cJ2_charAt_3b067 6 = .ok (.iload_n 1, 1) := by decide +kernel
theorem dJ2_charAt_3b067_7 : decode cJ2_charAt_3b067 7 = .ok (.invokestatic 71, 3) := by decide +kernel
theorem dJ2_charAt_3b067_10 : decode cJ2_charAt_3b067 10 = .ok (.ireturn, 1) := by decide +kernel
theorem dJ2_checkIndex_2214a_0 : decode cJ2_checkIndex_2214a 0 = .ok (.iload_n 0, 1) := by decide +kernel
theorem dJ2_checkIndex_2214a_1 : decode cJ2_checkIndex_2214a 1 = .ok (.aload_n 1, 1) := by decide +kernel
theorem dJ2_checkIndex_2214a_2 : decode cJ2_checkIndex_2214a 2 = .ok (.invokestatic 48, 3) := by decide +kernel
theorem dJ2_checkIndex_2214a_5 : decode cJ2_checkIndex_2214a 5 = .ok (.invokestatic 414, 3) := by decide +kernel
theorem dJ2_checkIndex_2214a_8 : decode cJ2_checkIndex_2214a 8 = .ok (.return_, 1) := by decide +kernel
theorem dJ3_checkIndex_8e157_0 : decode cJ3_checkIndex_8e157 0 = .ok (.iload_n 0, 1) := by decide +kernel
theorem dJ3_checkIndex_8e157_1 : decode cJ3_checkIndex_8e157 1 = .ok (.ifCond .lt 8, 3) := by decide +kernel
theorem dJ3_checkIndex_8e157_4 : decode cJ3_checkIndex_8e157 4 = .ok (.iload_n 0, 1) := by decide +kernel
theorem dJ3_checkIndex_8e157_5 : decode cJ3_checkIndex_8e157 5 = .ok (.iload_n 1, 1) := by decide +kernel
theorem dJ3_checkIndex_8e157_6 : decode cJ3_checkIndex_8e157 6 = .ok (.if_icmp .lt 10, 3) := by decide +kernel
theorem dJ3_checkIndex_8e157_9 : decode cJ3_checkIndex_8e157 9 = .ok (.aload_n 2, 1) := by decide +kernel
theorem dJ3_checkIndex_8e157_10 : decode cJ3_checkIndex_8e157 10 = .ok (.iload_n 0, 1) := by decide +kernel
theorem dJ3_checkIndex_8e157_11 : decode cJ3_checkIndex_8e157 11 = .ok (.iload_n 1, 1) := by decide +kernel
theorem dJ3_checkIndex_8e157_12 : decode cJ3_checkIndex_8e157 12 = .ok (.invokestatic 95, 3) := by decide +kernel
theorem dJ3_checkIndex_8e157_15 : decode cJ3_checkIndex_8e157 15 = .ok (.athrow, 1) := by decide +kernel
theorem dJ3_checkIndex_8e157_16 : decode cJ3_checkIndex_8e157 16 = .ok (.iload_n 0, 1) := by decide +kernel
theorem dJ3_checkIndex_8e157_17 : decode cJ3_checkIndex_8e157 17 = .ok (.ireturn, 1) := by decide +kernel
