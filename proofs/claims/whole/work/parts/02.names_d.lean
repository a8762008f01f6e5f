theorem dX6_init_0 : decode cX6_init 0 = .ok (.aload_n 0, 1) := by decide +kernel
theorem dX6_init_1 : decode cX6_init 1 = .ok (.invokespecial 1, 3) := by decide +kernel
theorem dX6_init_4 : decode cX6_init 4 = .ok (.aload_n 0, 1) := by decide +kernel
theorem dX6_init_5 : decode cX6_init 5 = .ok (.iconst 2, 1) := by decide +kernel
theorem dX6_init_6 : decode cX6_init 6 = .ok (.putfield 7, 3) := by decide +kernel
theorem dX6_init_9 : decode cX6_init 9 = .ok (.aload_n 0, 1) := by decide +kernel
theorem dX6_init_10 : decode cX6_init 10 = .ok (.iconst 4, 1) := by decide +kernel
theorem dX6_init_11 : decode cX6_init 11 = .ok (.putfield 13, 3) := by decide +kernel
theorem dX6_init_14 : decode cX6_init 14 = .ok (.aload_n 0, 1) := by decide +kernel
theorem dX6_init_15 : decode cX6_init 15 = .ok (.iconst 3, 1) := by decide +kernel
theorem dX6_init_16 : decode cX6_init 16 = .ok (.putfield 16, 3) := by decide +kernel
theorem dX6_init_19 : decode cX6_init 19 = .ok (.aload_n 0, 1) := by decide +kernel
theorem dX6_init_20 : decode cX6_init 20 = .ok (.iconst 1, 1) := by decide +kernel
theorem dX6_init_21 : decode cX6_init 21 = .ok (.putfield 19, 3) := by decide +kernel
theorem dX6_init_24 : decode cX6_init 24 = .ok (.aload_n 0, 1) := by decide +kernel
theorem dX6_init_25 : decode cX6_init 25 = .ok (.iconst 1, 1) := by decide +kernel
theorem dX6_init_26 : decode cX6_init 26 = .ok (.putfield 22, 3) := by decide +kernel
theorem dX6_init_29 : decode cX6_init 29 = .ok (.aload_n 0, 1) := by decide +kernel
theorem dX6_init_30 : decode cX6_init 30 = .ok (.bipush 9, 2) := by decide +kernel
theorem dX6_init_32 : decode cX6_init 32 = .ok (.newarray .int, 2) := by decide +kernel
theorem dX6_init_34 : decode cX6_init 34 = .ok (.putfield 25, 3) := by decide +kernel
theorem dX6_init_37 : decode cX6_init 37 = .ok (.aload_n 0, 1) := by decide +kernel
theorem dX6_init_38 : decode cX6_init 38 = .ok (.bipush 9, 2) := by decide +kernel
theorem dX6_init_40 : decode cX6_init 40 = .ok (.newarray .int, 2) := by decide +kernel
theorem dX6_init_42 : decode cX6_init 42 = .ok (.putfield 29, 3) := by decide +kernel
theorem dX6_init_45 : decode cX6_init 45 = .ok (.aload_n 0, 1) := by decide +kernel
theorem dX6_init_46 : decode cX6_init 46 = .ok (.iconst 5, 1) := by decide +kernel
theorem dX6_init_47 : decode cX6_init 47 = .ok (.newarray .long, 2) := by decide +kernel
theorem dX6_init_49 : decode cX6_init 49 = .ok (.putfield 32, 3) := by decide +kernel
theorem dX6_init_52 : decode cX6_init 52 = .ok (.aload_n 0, 1) := by decide +kernel
theorem dX6_init_53 : decode cX6_init 53 = .ok (.iconst 5, 1) := by decide +kernel
theorem dX6_init_54 : decode cX6_init 54 = .ok (.newarray .int, 2) := by decide +kernel
theorem dX6_init_56 : decode cX6_init 56 = .ok (.putfield 36, 3) := by decide +kernel
theorem dX6_init_59 : decode cX6_init 59 = .ok (.aload_n 0, 1) := by decide +kernel
theorem dX6_init_60 : decode cX6_init 60 = .ok (.iconst 5, 1) := by decide +kernel
theorem dX6_init_61 : decode cX6_init 61 = .ok (.newarray .int, 2) := by decide +kernel
theorem dX6_init_63 : decode cX6_init 63 = .ok (.putfield 39, 3) := by decide +kernel
theorem dX6_init_66 : decode cX6_init 66 = .ok (.aload_n 0, 1) := by decide +kernel
theorem dX6_init_67 : decode cX6_init 67 = .ok (.iconst 2, 1) := by decide +kernel
theorem dX6_init_68 : decode cX6_init 68 = .ok (.newarray .int, 2) := by decide +kernel
theorem dX6_init_70 : decode cX6_init 70 = .ok (.putfield 42, 3) := by decide +kernel
theorem dX6_init_73 : decode cX6_init 73 = .ok (.aload_n 0, 1) := by decide +kernel
theorem dX6_init_74 : decode cX6_init 74 = .ok (.iconst 4, 1) := by decide +kernel
theorem dX6_init_75 : decode cX6_init 75 = .ok (.newarray .int, 2) := by decide +kernel
theorem dX6_init_77 : decode cX6_init 77 = .ok (.putfield 45, 3) := by decide +kernel
theorem dX6_init_80 : decode cX6_init 80 = .ok (.aload_n 0, 1) := by decide +kernel
theorem dX6_init_81 : decode cX6_init 81 = .ok (.bipush 8, 2) := by decide +kernel
theorem dX6_init_83 : decode cX6_init 83 = .ok (.newarray .int, 2) := by decide +kernel
theorem dX6_init_85 : decode cX6_init 85 = .ok (.putfield 48, 3) := by decide +kernel
theorem dX6_init_88 : decode cX6_init 88 = .ok (.aload_n 0, 1) := by decide +kernel
theorem dX6_init_89 : decode cX6_init 89 = .ok (.bipush 8, 2) := by decide +kernel
theorem dX6_init_91 : decode cX6_init 91 = .ok (.newarray .int, 2) := by decide +kernel
theorem dX6_init_93 : decode cX6_init 93 = .ok (.putfield 51, 3) := by decide +kernel
theorem dX6_init_96 : decode cX6_init 96 = .ok (.aload_n 0, 1) := by decide +kernel
theorem dX6_init_97 : decode cX6_init 97 = .ok (.sipush 1616, 3) := by decide +kernel
theorem dX6_init_100 : decode cX6_init 100 = .ok (.newarray .long, 2) := by decide +kernel
theorem dX6_init_102 : decode cX6_init 102 = .ok (.putfield 54, 3) := by decide +kernel
theorem dX6_init_105 : decode cX6_init 105 = .ok (.aload_n 0, 1) := by decide +kernel
theorem dX6_init_106 : decode cX6_init 106 = .ok (.bipush 8, 2) := by decide +kernel
theorem dX6_init_108 : decode cX6_init 108 = .ok (.newarray .long, 2) := by decide +kernel
theorem dX6_init_110 : decode cX6_init 110 = .ok (.putfield 57, 3) := by decide +kernel
theorem dX6_init_113 : decode cX6_init 113 = .ok (.aload_n 0, 1) := by decide +kernel
theorem dX6_init_114 : decode cX6_init 114 = .ok (.sipush 3216, 3) := by decide +kernel
theorem dX6_init_117 : decode cX6_init 117 = .ok (.newarray .long, 2) := by decide +kernel
theorem dX6_init_119 : decode cX6_init 119 = .ok (.putfield 60, 3) := by decide +kernel
theorem dX6_init_122 : decode cX6_init 122 = .ok (.aload_n 0, 1) := by decide +kernel
theorem dX6_init_123 : decode cX6_init 123 = .ok (.sipush 3216, 3) := by decide +kernel
theorem dX6_init_126 : decode cX6_init 126 = .ok (.newarray .long, 2) := by decide +kernel
theorem dX6_init_128 : decode cX6_init 128 = .ok (.putfield 63, 3) := by decide +kernel
theorem dX6_init_131 : decode cX6_init 131 = .ok (.aload_n 0, 1) := by decide +kernel
theorem dX6_init_132 : decode cX6_init 132 = .ok (.bipush 16, 2) := by decide +kernel
theorem dX6_init_134 : decode cX6_init 134 = .ok (.newarray .int, 2) := by decide +kernel
theorem dX6_init_136 : decode cX6_init 136 = .ok (.putfield 66, 3) := by decide +kernel
theorem dX6_init_139 : decode cX6_init 139 = .ok (.aload_n 0, 1) := by decide +kernel
theorem dX6_init_140 : decode cX6_init 140 = .ok (.bipush 8, 2) := by decide +kernel
theorem dX6_init_142 : decode cX6_init 142 = .ok (.newarray .long, 2) := by decide +kernel
theorem dX6_init_144 : decode cX6_init 144 = .ok (.putfield 69, 3) := by decide +kernel
theorem dX6_init_147 : decode cX6_init 147 = .ok (.aload_n 0, 1) := by decide +kernel
theorem dX6_init_148 : decode cX6_init 148 = .ok (.invokevirtual 72, 3) := by decide +kernel
theorem dX6_init_151 : decode cX6_init 151 = .ok (.aload_n 0, 1) := by decide +kernel
theorem dX6_init_152 : decode cX6_init 152 = .ok (.iconst 0, 1) := by decide +kernel
theorem dX6_init_153 : decode cX6_init 153 = .ok (.iconst 0, 1) := by decide +kernel
theorem dX6_init_154 : decode cX6_init 154 = .ok (.invokevirtual 75, 3) := by decide +kernel
theorem dX6_init_157 : decode cX6_init 157 = .ok (.aload_n 0, 1) := by decide +kernel
theorem dX6_init_158 : decode cX6_init 158 = .ok (.aload_n 0, 1) := by decide +kernel
theorem dX6_init_159 : decode cX6_init 159 = .ok (.getfield 54, 3) := by decide +kernel
theorem dX6_init_162 : decode cX6_init 162 = .ok (.iconst 0, 1) := by decide +kernel
theorem dX6_init_163 : decode cX6_init 163 = .ok (.invokevirtual 79, 3) := by decide +kernel
theorem dX6_init_166 : decode cX6_init 166 = .ok (.return_, 1) := by decide +kernel
theorem dX6_thrown_0 : decode cX6_thrown 0 = .ok (.aload_n 0, 1) := by decide +kernel
theorem dX6_thrown_1 : decode cX6_thrown 1 = .ok (.getfield 83, 3) := by decide +kernel
theorem dX6_thrown_4 : decode cX6_thrown 4 = .ok (.ireturn, 1) := by decide +kernel
theorem dX6_goesWell_0 : decode cX6_goesWell 0 = .ok (.aload_n 0, 1) := by decide +kernel
theorem dX6_goesWell_1 : decode cX6_goesWell 1 = .ok (.iload_n 1, 1) := by decide +kernel
theorem dX6_goesWell_2 : decode cX6_goesWell 2 = .ok (.putfield 83, 3) := by decide +kernel
theorem dX6_goesWell_5 : decode cX6_goesWell 5 = .ok (.iload_n 1, 1) := by decide +kernel
theorem dX6_goesWell_6 : decode cX6_goesWell 6 = .ok (.ifCond .ne 7, 3) := by decide +kernel
theorem dX6_goesWell_9 : decode cX6_goesWell 9 = .ok (.iconst 1, 1) := by decide +kernel
theorem dX6_goesWell_10 : decode cX6_goesWell 10 = .ok (.goto 4, 3) := by decide +kernel
theorem dX6_goesWell_13 : decode cX6_goesWell 13 = .ok (.iconst 0, 1) := by decide +kernel
theorem dX6_goesWell_14 : decode cX6_goesWell 14 = .ok (.ireturn, 1) := by decide +kernel
theorem dX6_in_0 : decode cX6_in 0 = .ok (.iload_n 0, 1) := by decide +kernel
theorem dX6_in_1 : decode cX6_in 1 = .ok (.iload_n 1, 1) := by decide +kernel
theorem dX6_in_2 : decode cX6_in 2 = .ok (.if_icmp .lt 12, 3) := by decide +kernel
theorem dX6_in_5 : decode cX6_in 5 = .ok (.iload_n 0, 1) := by decide +kernel
theorem dX6_in_6 : decode cX6_in 6 = .ok (.iload_n 2, 1) := by decide +kernel
theorem dX6_in_7 : decode cX6_in 7 = .ok (.if_icmp .gt 7, 3) := by decide +kernel
theorem dX6_in_10 : decode cX6_in 10 = .ok (.iconst 1, 1) := by decide +kernel
theorem dX6_in_11 : decode cX6_in 11 = .ok (.goto 4, 3) := by decide +kernel
theorem dX6_in_14 : decode cX6_in 14 = .ok (.iconst 0, 1) := by decide +kernel
theorem dX6_in_15 : decode cX6_in 15 = .ok (.ireturn, 1) := by decide +kernel
theorem dX6_takeRules_0 : decode cX6_takeRules 0 = .ok (.aload_n 0, 1) := by decide +kernel
theorem dX6_takeRules_1 : decode cX6_takeRules 1 = .ok (.getfield 25, 3) := by decide +kernel
theorem dX6_takeRules_4 : decode cX6_takeRules 4 = .ok (.iconst 0, 1) := by decide +kernel
theorem dX6_takeRules_5 : decode cX6_takeRules 5 = .ok (.aload_n 0, 1) := by decide +kernel
theorem dX6_takeRules_6 : decode cX6_takeRules 6 = .ok (.getfield 7, 3) := by decide +kernel
theorem dX6_takeRules_9 : decode cX6_takeRules 9 = .ok (.iastore, 1) := by decide +kernel
theorem dX6_takeRules_10 : decode cX6_takeRules 10 = .ok (.aload_n 0, 1) := by decide +kernel
theorem dX6_takeRules_11 : decode cX6_takeRules 11 = .ok (.getfield 25, 3) := by decide +kernel
theorem dX6_takeRules_14 : decode cX6_takeRules 14 = .ok (.iconst 1, 1) := by decide +kernel
theorem dX6_takeRules_15 : decode cX6_takeRules 15 = .ok (.aload_n 0, 1) := by decide +kernel
theorem dX6_takeRules_16 : decode cX6_takeRules 16 = .ok (.getfield 13, 3) := by decide +kernel
theorem dX6_takeRules_19 : decode cX6_takeRules 19 = .ok (.iastore, 1) := by decide +kernel
theorem dX6_takeRules_20 : decode cX6_takeRules 20 = .ok (.aload_n 0, 1) := by decide +kernel
theorem dX6_takeRules_21 : decode cX6_takeRules 21 = .ok (.getfield 25, 3) := by decide +kernel
theorem dX6_takeRules_24 : decode cX6_takeRules 24 = .ok (.iconst 2, 1) := by decide +kernel
theorem dX6_takeRules_25 : decode cX6_takeRules 25 = .ok (.aload_n 0, 1) := by decide +kernel
theorem dX6_takeRules_26 : decode cX6_takeRules 26 = .ok (.getfield 16, 3) := by decide +kernel
theorem dX6_takeRules_29 : decode cX6_takeRules 29 = .ok (.iastore, 1) := by decide +kernel
theorem dX6_takeRules_30 : decode cX6_takeRules 30 = .ok (.aload_n 0, 1) := by decide +kernel
theorem dX6_takeRules_31 : decode cX6_takeRules 31 = .ok (.getfield 25, 3) := by decide +kernel
theorem dX6_takeRules_34 : decode cX6_takeRules 34 = .ok (.iconst 3, 1) := by decide +kernel
theorem dX6_takeRules_35 : decode cX6_takeRules 35 = .ok (.aload_n 0, 1) := by decide +kernel
theorem dX6_takeRules_36 : decode cX6_takeRules 36 = .ok (.getfield 19, 3) := by decide +kernel
theorem dX6_takeRules_39 : decode cX6_takeRules 39 = .ok (.iastore, 1) := by decide +kernel
theorem dX6_takeRules_40 : decode cX6_takeRules 40 = .ok (.aload_n 0, 1) := by decide +kernel
theorem dX6_takeRules_41 : decode cX6_takeRules 41 = .ok (.getfield 25, 3) := by decide +kernel
theorem dX6_takeRules_44 : decode cX6_takeRules 44 = .ok (.iconst 4, 1) := by decide +kernel
theorem dX6_takeRules_45 : decode cX6_takeRules 45 = .ok (.aload_n 0, 1) := by decide +kernel
theorem dX6_takeRules_46 : decode cX6_takeRules 46 = .ok (.getfield 22, 3) := by decide +kernel
theorem dX6_takeRules_49 : decode cX6_takeRules 49 = .ok (.iastore, 1) := by decide +kernel
theorem dX6_takeRules_50 : decode cX6_takeRules 50 = .ok (.aload_n 0, 1) := by decide +kernel
theorem dX6_takeRules_51 : decode cX6_takeRules 51 = .ok (.getfield 25, 3) := by decide +kernel
theorem dX6_takeRules_54 : decode cX6_takeRules 54 = .ok (.iconst 5, 1) := by decide +kernel
theorem dX6_takeRules_55 : decode cX6_takeRules 55 = .ok (.aload_n 0, 1) := by decide +kernel
theorem dX6_takeRules_56 : decode cX6_takeRules 56 = .ok (.getfield 86, 3) := by decide +kernel
theorem dX6_takeRules_59 : decode cX6_takeRules 59 = .ok (.iastore, 1) := by decide +kernel
theorem dX6_takeRules_60 : decode cX6_takeRules 60 = .ok (.aload_n 0, 1) := by decide +kernel
theorem dX6_takeRules_61 : decode cX6_takeRules 61 = .ok (.getfield 25, 3) := by decide +kernel
theorem dX6_takeRules_64 : decode cX6_takeRules 64 = .ok (.bipush 6, 2) := by decide +kernel
theorem dX6_takeRules_66 : decode cX6_takeRules 66 = .ok (.aload_n 0, 1) := by decide +kernel
theorem dX6_takeRules_67 : decode cX6_takeRules 67 = .ok (.getfield 89, 3) := by decide +kernel
theorem dX6_takeRules_70 : decode cX6_takeRules 70 = .ok (.iastore, 1) := by decide +kernel
theorem dX6_takeRules_71 : decode cX6_takeRules 71 = .ok (.aload_n 0, 1) := by decide +kernel
theorem dX6_takeRules_72 : decode cX6_takeRules 72 = .ok (.getfield 25, 3) := by decide +kernel
theorem dX6_takeRules_75 : decode cX6_takeRules 75 = .ok (.bipush 7, 2) := by decide +kernel
theorem dX6_takeRules_77 : decode cX6_takeRules 77 = .ok (.aload_n 0, 1) := by decide +kernel
theorem dX6_takeRules_78 : decode cX6_takeRules 78 = .ok (.getfield 92, 3) := by decide +kernel
theorem dX6_takeRules_81 : decode cX6_takeRules 81 = .ok (.iastore, 1) := by decide +kernel
theorem dX6_takeRules_82 : decode cX6_takeRules 82 = .ok (.aload_n 0, 1) := by decide +kernel
theorem dX6_takeRules_83 : decode cX6_takeRules 83 = .ok (.getfield 25, 3) := by decide +kernel
theorem dX6_takeRules_86 : decode cX6_takeRules 86 = .ok (.bipush 8, 2) := by decide +kernel
theorem dX6_takeRules_88 : decode cX6_takeRules 88 = .ok (.aload_n 0, 1) := by decide +kernel
theorem dX6_takeRules_89 : decode cX6_takeRules 89 = .ok (.getfield 95, 3) := by decide +kernel
theorem dX6_takeRules_92 : decode cX6_takeRules 92 = .ok (.ifCond .eq 7, 3) := by decide +kernel
theorem dX6_takeRules_95 : decode cX6_takeRules 95 = .ok (.iconst 1, 1) := by decide +kernel
theorem dX6_takeRules_96 : decode cX6_takeRules 96 = .ok (.goto 4, 3) := by decide +kernel
theorem dX6_takeRules_99 : decode cX6_takeRules 99 = .ok (.iconst 0, 1) := by decide +kernel
theorem dX6_takeRules_100 : decode cX6_takeRules 100 = .ok (.iastore, 1) := by decide +kernel
theorem dX6_takeRules_101 : decode cX6_takeRules 101 = .ok (.return_, 1) := by decide +kernel
theorem dX6_deck_0 : decode cX6_deck 0 = .ok (.iload_n 1, 1) := by decide +kernel
theorem dX6_deck_1 : decode cX6_deck 1 = .ok (.iconst 1, 1) := by decide +kernel
theorem dX6_deck_2 : decode cX6_deck 2 = .ok (.iconst 4, 1) := by decide +kernel
theorem dX6_deck_3 : decode cX6_deck 3 = .ok (.invokestatic 99, 3) := by decide +kernel
theorem dX6_deck_6 : decode cX6_deck 6 = .ok (.ifCond .eq 39, 3) := by decide +kernel
theorem dX6_deck_9 : decode cX6_deck 9 = .ok (.iload_n 2, 1) := by decide +kernel
theorem dX6_deck_10 : decode cX6_deck 10 = .ok (.iconst 1, 1) := by decide +kernel
theorem dX6_deck_11 : decode cX6_deck 11 = .ok (.bipush 6, 2) := by decide +kernel
theorem dX6_deck_13 : decode cX6_deck 13 = .ok (.invokestatic 99, 3) := by decide +kernel
theorem dX6_deck_16 : decode cX6_deck 16 = .ok (.ifCond .eq 29, 3) := by decide +kernel
theorem dX6_deck_19 : decode cX6_deck 19 = .ok (.iload_n 1, 1) := by decide +kernel
theorem dX6_deck_20 : decode cX6_deck 20 = .ok (.iload_n 2, 1) := by decide +kernel
theorem dX6_deck_21 : decode cX6_deck 21 = .ok (.imul, 1) := by decide +kernel
theorem dX6_deck_22 : decode cX6_deck 22 = .ok (.iconst 2, 1) := by decide +kernel
theorem dX6_deck_23 : decode cX6_deck 23 = .ok (.bipush 16, 2) := by decide +kernel
theorem dX6_deck_25 : decode cX6_deck 25 = .ok (.invokestatic 99, 3) := by decide +kernel
theorem dX6_deck_28 : decode cX6_deck 28 = .ok (.ifCond .eq 17, 3) := by decide +kernel
theorem dX6_deck_31 : decode cX6_deck 31 = .ok (.iload_n 1, 1) := by decide +kernel
theorem dX6_deck_32 : decode cX6_deck 32 = .ok (.iload_n 2, 1) := by decide +kernel
theorem dX6_deck_33 : decode cX6_deck 33 = .ok (.imul, 1) := by decide +kernel
theorem dX6_deck_34 : decode cX6_deck 34 = .ok (.aload_n 0, 1) := by decide +kernel
theorem dX6_deck_35 : decode cX6_deck 35 = .ok (.getfield 89, 3) := by decide +kernel
theorem dX6_deck_38 : decode cX6_deck 38 = .ok (.if_icmp .le 7, 3) := by decide +kernel
theorem dX6_deck_41 : decode cX6_deck 41 = .ok (.iconst 1, 1) := by decide +kernel
theorem dX6_deck_42 : decode cX6_deck 42 = .ok (.goto 4, 3) := by decide +kernel
theorem dX6_deck_45 : decode cX6_deck 45 = .ok (.iconst 0, 1) := by decide +kernel
theorem dX6_deck_46 : decode cX6_deck 46 = .ok (.istore_n 3, 1) := by decide +kernel
theorem dX6_deck_47 : decode cX6_deck 47 = .ok (.aload_n 0, 1) := by decide +kernel
theorem dX6_deck_48 : decode cX6_deck 48 = .ok (.iload_n 3, 1) := by decide +kernel
theorem dX6_deck_49 : decode cX6_deck 49 = .ok (.ifCond .eq 7, 3) := by decide +kernel
theorem dX6_deck_52 : decode cX6_deck 52 = .ok (.iconst 0, 1) := by decide +kernel
theorem dX6_deck_53 : decode cX6_deck 53 = .ok (.goto 4, 3) := by decide +kernel
theorem dX6_deck_56 : decode cX6_deck 56 = .ok (.iconst 1, 1) := by decide +kernel
theorem dX6_deck_57 : decode cX6_deck 57 = .ok (.invokevirtual 103, 3) := by decide +kernel
theorem dX6_deck_60 : decode cX6_deck 60 = .ok (.ifCond .ne 5, 3) := by decide +kernel
theorem dX6_deck_63 : decode cX6_deck 63 = .ok (.iconst 0, 1) := by decide +kernel
theorem dX6_deck_64 : decode cX6_deck 64 = .ok (.ireturn, 1) := by decide +kernel
theorem dX6_deck_65 : decode cX6_deck 65 = .ok (.aload_n 0, 1) := by decide +kernel
theorem dX6_deck_66 : decode cX6_deck 66 = .ok (.iload_n 1, 1) := by decide +kernel
theorem dX6_deck_67 : decode cX6_deck 67 = .ok (.putfield 7, 3) := by decide +kernel
theorem dX6_deck_70 : decode cX6_deck 70 = .ok (.aload_n 0, 1) := by decide +kernel
theorem dX6_deck_71 : decode cX6_deck 71 = .ok (.iload_n 2, 1) := by decide +kernel
theorem dX6_deck_72 : decode cX6_deck 72 = .ok (.putfield 13, 3) := by decide +kernel
theorem dX6_deck_75 : decode cX6_deck 75 = .ok (.iload_n 1, 1) := by decide +kernel
theorem dX6_deck_76 : decode cX6_deck 76 = .ok (.iload_n 2, 1) := by decide +kernel
theorem dX6_deck_77 : decode cX6_deck 77 = .ok (.imul, 1) := by decide +kernel
theorem dX6_deck_78 : decode cX6_deck 78 = .ok (.ireturn, 1) := by decide +kernel
theorem dX6_table_0 : decode cX6_table 0 = .ok (.aload_n 0, 1) := by decide +kernel
theorem dX6_table_1 : decode cX6_table 1 = .ok (.iload_n 1, 1) := by decide +kernel
theorem dX6_table_2 : decode cX6_table 2 = .ok (.iconst 1, 1) := by decide +kernel
theorem dX6_table_3 : decode cX6_table 3 = .ok (.iconst 5, 1) := by decide +kernel
theorem dX6_table_4 : decode cX6_table 4 = .ok (.invokestatic 99, 3) := by decide +kernel
theorem dX6_table_7 : decode cX6_table 7 = .ok (.ifCond .eq 35, 3) := by decide +kernel
theorem dX6_table_10 : decode cX6_table 10 = .ok (.iload_n 2, 1) := by decide +kernel
theorem dX6_table_11 : decode cX6_table 11 = .ok (.iconst 0, 1) := by decide +kernel
theorem dX6_table_12 : decode cX6_table 12 = .ok (.iconst 2, 1) := by decide +kernel
theorem dX6_table_13 : decode cX6_table 13 = .ok (.invokestatic 99, 3) := by decide +kernel
theorem dX6_table_16 : decode cX6_table 16 = .ok (.ifCond .eq 26, 3) := by decide +kernel
theorem dX6_table_19 : decode cX6_table 19 = .ok (.iload_n 3, 1) := by decide +kernel
theorem dX6_table_20 : decode cX6_table 20 = .ok (.iconst 0, 1) := by decide +kernel
theorem dX6_table_21 : decode cX6_table 21 = .ok (.iconst 2, 1) := by decide +kernel
theorem dX6_table_22 : decode cX6_table 22 = .ok (.invokestatic 99, 3) := by decide +kernel
theorem dX6_table_25 : decode cX6_table 25 = .ok (.ifCond .eq 17, 3) := by decide +kernel
theorem dX6_table_28 : decode cX6_table 28 = .ok (.iload 4, 2) := by decide +kernel
theorem dX6_table_30 : decode cX6_table 30 = .ok (.iconst 0, 1) := by decide +kernel
theorem dX6_table_31 : decode cX6_table 31 = .ok (.iconst 2, 1) := by decide +kernel
theorem dX6_table_32 : decode cX6_table 32 = .ok (.invokestatic 99, 3) := by decide +kernel
theorem dX6_table_35 : decode cX6_table 35 = .ok (.ifCond .eq 7, 3) := by decide +kernel
theorem dX6_table_38 : decode cX6_table 38 = .ok (.iconst 0, 1) := by decide +kernel
theorem dX6_table_39 : decode cX6_table 39 = .ok (.goto 4, 3) := by decide +kernel
theorem dX6_table_42 : decode cX6_table 42 = .ok (.iconst 1, 1) := by decide +kernel
theorem dX6_table_43 : decode cX6_table 43 = .ok (.invokevirtual 103, 3) := by decide +kernel
theorem dX6_table_46 : decode cX6_table 46 = .ok (.ifCond .eq 24, 3) := by decide +kernel
theorem dX6_table_49 : decode cX6_table 49 = .ok (.aload_n 0, 1) := by decide +kernel
theorem dX6_table_50 : decode cX6_table 50 = .ok (.iload_n 1, 1) := by decide +kernel
theorem dX6_table_51 : decode cX6_table 51 = .ok (.putfield 16, 3) := by decide +kernel
theorem dX6_table_54 : decode cX6_table 54 = .ok (.aload_n 0, 1) := by decide +kernel
theorem dX6_table_55 : decode cX6_table 55 = .ok (.iload_n 2, 1) := by decide +kernel
theorem dX6_table_56 : decode cX6_table 56 = .ok (.putfield 19, 3) := by decide +kernel
theorem dX6_table_59 : decode cX6_table 59 = .ok (.aload_n 0, 1) := by decide +kernel
theorem dX6_table_60 : decode cX6_table 60 = .ok (.iload_n 3, 1) := by decide +kernel
theorem dX6_table_61 : decode cX6_table 61 = .ok (.putfield 22, 3) := by decide +kernel
theorem dX6_table_64 : decode cX6_table 64 = .ok (.aload_n 0, 1) := by decide +kernel
theorem dX6_table_65 : decode cX6_table 65 = .ok (.iload 4, 2) := by decide +kernel
theorem dX6_table_67 : decode cX6_table 67 = .ok (.putfield 86, 3) := by decide +kernel
theorem dX6_table_70 : decode cX6_table 70 = .ok (.return_, 1) := by decide +kernel
theorem dX6_stock_0 : decode cX6_stock 0 = .ok (.aload_n 0, 1) := by decide +kernel
theorem dX6_stock_1 : decode cX6_stock 1 = .ok (.iload_n 1, 1) := by decide +kernel
theorem dX6_stock_2 : decode cX6_stock 2 = .ok (.iconst 0, 1) := by decide +kernel
theorem dX6_stock_3 : decode cX6_stock 3 = .ok (.bipush 8, 2) := by decide +kernel
theorem dX6_stock_5 : decode cX6_stock 5 = .ok (.invokestatic 99, 3) := by decide +kernel
theorem dX6_stock_8 : decode cX6_stock 8 = .ok (.ifCond .eq 29, 3) := by decide +kernel
theorem dX6_stock_11 : decode cX6_stock 11 = .ok (.iload_n 2, 1) := by decide +kernel
theorem dX6_stock_12 : decode cX6_stock 12 = .ok (.iconst 0, 1) := by decide +kernel
theorem dX6_stock_13 : decode cX6_stock 13 = .ok (.iconst 2, 1) := by decide +kernel
theorem dX6_stock_14 : decode cX6_stock 14 = .ok (.invokestatic 99, 3) := by decide +kernel
theorem dX6_stock_17 : decode cX6_stock 17 = .ok (.ifCond .eq 20, 3) := by decide +kernel
theorem dX6_stock_20 : decode cX6_stock 20 = .ok (.aload_n 0, 1) := by decide +kernel
theorem dX6_stock_21 : decode cX6_stock 21 = .ok (.getfield 7, 3) := by decide +kernel
theorem dX6_stock_24 : decode cX6_stock 24 = .ok (.aload_n 0, 1) := by decide +kernel
theorem dX6_stock_25 : decode cX6_stock 25 = .ok (.getfield 13, 3) := by decide +kernel
theorem dX6_stock_28 : decode cX6_stock 28 = .ok (.imul, 1) := by decide +kernel
theorem dX6_stock_29 : decode cX6_stock 29 = .ok (.iload_n 1, 1) := by decide +kernel
theorem dX6_stock_30 : decode cX6_stock 30 = .ok (.if_icmp .le 7, 3) := by decide +kernel
theorem dX6_stock_33 : decode cX6_stock 33 = .ok (.iconst 0, 1) := by decide +kernel
theorem dX6_stock_34 : decode cX6_stock 34 = .ok (.goto 4, 3) := by decide +kernel
theorem dX6_stock_37 : decode cX6_stock 37 = .ok (.iconst 1, 1) := by decide +kernel
theorem dX6_stock_38 : decode cX6_stock 38 = .ok (.invokevirtual 103, 3) := by decide +kernel
theorem dX6_stock_41 : decode cX6_stock 41 = .ok (.ifCond .eq 18, 3) := by decide +kernel
theorem dX6_stock_44 : decode cX6_stock 44 = .ok (.aload_n 0, 1) := by decide +kernel
theorem dX6_stock_45 : decode cX6_stock 45 = .ok (.iload_n 1, 1) := by decide +kernel
theorem dX6_stock_46 : decode cX6_stock 46 = .ok (.putfield 89, 3) := by decide +kernel
theorem dX6_stock_49 : decode cX6_stock 49 = .ok (.aload_n 0, 1) := by decide +kernel
theorem dX6_stock_50 : decode cX6_stock 50 = .ok (.iload_n 2, 1) := by decide +kernel
theorem dX6_stock_51 : decode cX6_stock 51 = .ok (.putfield 92, 3) := by decide +kernel
theorem dX6_stock_54 : decode cX6_stock 54 = .ok (.aload_n 0, 1) := by decide +kernel
theorem dX6_stock_55 : decode cX6_stock 55 = .ok (.iload_n 3, 1) := by decide +kernel
theorem dX6_stock_56 : decode cX6_stock 56 = .ok (.putfield 95, 3) := by decide +kernel
theorem dX6_stock_59 : decode cX6_stock 59 = .ok (.return_, 1) := by decide +kernel
theorem dX6_next_0 : decode cX6_next 0 = .ok (.iload_n 0, 1) := by decide +kernel
theorem dX6_next_1 : decode cX6_next 1 = .ok (.ifCond .ne 15, 3) := by decide +kernel
theorem dX6_next_4 : decode cX6_next 4 = .ok (.lload_n 1, 1) := by decide +kernel
theorem dX6_next_5 : decode cX6_next 5 = .ok (.ldc2_w 107, 3) := by decide +kernel
theorem dX6_next_8 : decode cX6_next 8 = .ok (.lmul, 1) := by decide +kernel
theorem dX6_next_9 : decode cX6_next 9 = .ok (.ldc2_w 109, 3) := by decide +kernel
theorem dX6_next_12 : decode cX6_next 12 = .ok (.ladd, 1) := by decide +kernel
theorem dX6_next_13 : decode cX6_next 13 = .ok (.goto 12, 3) := by decide +kernel
theorem dX6_next_16 : decode cX6_next 16 = .ok (.lload_n 1, 1) := by decide +kernel
theorem dX6_next_17 : decode cX6_next 17 = .ok (.ldc2_w 111, 3) := by decide +kernel
theorem dX6_next_20 : decode cX6_next 20 = .ok (.lmul, 1) := by decide +kernel
theorem dX6_next_21 : decode cX6_next 21 = .ok (.ldc2_w 113, 3) := by decide +kernel
theorem dX6_next_24 : decode cX6_next 24 = .ok (.ladd, 1) := by decide +kernel
theorem dX6_next_25 : decode cX6_next 25 = .ok (.ldc2_w 115, 3) := by decide +kernel
theorem dX6_next_28 : decode cX6_next 28 = .ok (.lrem, 1) := by decide +kernel
theorem dX6_next_29 : decode cX6_next 29 = .ok (.lreturn, 1) := by decide +kernel
theorem dX6_clear_0 : decode cX6_clear 0 = .ok (.iconst 0, 1) := by decide +kernel
theorem dX6_clear_1 : decode cX6_clear 1 = .ok (.istore_n 1, 1) := by decide +kernel
theorem dX6_clear_2 : decode cX6_clear 2 = .ok (.iload_n 1, 1) := by decide +kernel
theorem dX6_clear_3 : decode cX6_clear 3 = .ok (.iconst 5, 1) := by decide +kernel
theorem dX6_clear_4 : decode cX6_clear 4 = .ok (.if_icmp .ge 30, 3) := by decide +kernel
theorem dX6_clear_7 : decode cX6_clear 7 = .ok (.aload_n 0, 1) := by decide +kernel
theorem dX6_clear_8 : decode cX6_clear 8 = .ok (.getfield 32, 3) := by decide +kernel
theorem dX6_clear_11 : decode cX6_clear 11 = .ok (.iload_n 1, 1) := by decide +kernel
theorem dX6_clear_12 : decode cX6_clear 12 = .ok (.lconst 0, 1) := by decide +kernel
theorem dX6_clear_13 : decode cX6_clear 13 = .ok (.lastore, 1) := by decide +kernel
theorem dX6_clear_14 : decode cX6_clear 14 = .ok (.aload_n 0, 1) := by decide +kernel
theorem dX6_clear_15 : decode cX6_clear 15 = .ok (.getfield 36, 3) := by decide +kernel
theorem dX6_clear_18 : decode cX6_clear 18 = .ok (.iload_n 1, 1) := by decide +kernel
theorem dX6_clear_19 : decode cX6_clear 19 = .ok (.iconst 0, 1) := by decide +kernel
theorem dX6_clear_20 : decode cX6_clear 20 = .ok (.iastore, 1) := by decide +kernel
theorem dX6_clear_21 : decode cX6_clear 21 = .ok (.aload_n 0, 1) := by decide +kernel
theorem dX6_clear_22 : decode cX6_clear 22 = .ok (.getfield 39, 3) := by decide +kernel
theorem dX6_clear_25 : decode cX6_clear 25 = .ok (.iload_n 1, 1) := by decide +kernel
theorem dX6_clear_26 : decode cX6_clear 26 = .ok (.iconst 0, 1) := by decide +kernel
theorem dX6_clear_27 : decode cX6_clear 27 = .ok (.iastore, 1) := by decide +kernel
theorem dX6_clear_28 : decode cX6_clear 28 = .ok (.iinc 1 1, 3) := by decide +kernel
theorem dX6_clear_31 : decode cX6_clear 31 = .ok (.goto (-29), 3) := by decide +kernel
theorem dX6_clear_34 : decode cX6_clear 34 = .ok (.iconst 0, 1) := by decide +kernel
theorem dX6_clear_35 : decode cX6_clear 35 = .ok (.istore_n 1, 1) := by decide +kernel
theorem dX6_clear_36 : decode cX6_clear 36 = .ok (.iload_n 1, 1) := by decide +kernel
theorem dX6_clear_37 : decode cX6_clear 37 = .ok (.iconst 4, 1) := by decide +kernel
theorem dX6_clear_38 : decode cX6_clear 38 = .ok (.if_icmp .ge 16, 3) := by decide +kernel
theorem dX6_clear_41 : decode cX6_clear 41 = .ok (.aload_n 0, 1) := by decide +kernel
theorem dX6_clear_42 : decode cX6_clear 42 = .ok (.getfield 45, 3) := by decide +kernel
theorem dX6_clear_45 : decode cX6_clear 45 = .ok (.iload_n 1, 1) := by decide +kernel
theorem dX6_clear_46 : decode cX6_clear 46 = .ok (.iconst 0, 1) := by decide +kernel
theorem dX6_clear_47 : decode cX6_clear 47 = .ok (.iastore, 1) := by decide +kernel
theorem dX6_clear_48 : decode cX6_clear 48 = .ok (.iinc 1 1, 3) := by decide +kernel
theorem dX6_clear_51 : decode cX6_clear 51 = .ok (.goto (-15), 3) := by decide +kernel
theorem dX6_clear_54 : decode cX6_clear 54 = .ok (.aload_n 0, 1) := by decide +kernel
theorem dX6_clear_55 : decode cX6_clear 55 = .ok (.getfield 42, 3) := by decide +kernel
theorem dX6_clear_58 : decode cX6_clear 58 = .ok (.iconst 0, 1) := by decide +kernel
theorem dX6_clear_59 : decode cX6_clear 59 = .ok (.iconst (-1), 1) := by decide +kernel
theorem dX6_clear_60 : decode cX6_clear 60 = .ok (.iastore, 1) := by decide +kernel
theorem dX6_clear_61 : decode cX6_clear 61 = .ok (.aload_n 0, 1) := by decide +kernel
theorem dX6_clear_62 : decode cX6_clear 62 = .ok (.getfield 42, 3) := by decide +kernel
theorem dX6_clear_65 : decode cX6_clear 65 = .ok (.iconst 1, 1) := by decide +kernel
theorem dX6_clear_66 : decode cX6_clear 66 = .ok (.iconst (-1), 1) := by decide +kernel
theorem dX6_clear_67 : decode cX6_clear 67 = .ok (.iastore, 1) := by decide +kernel
theorem dX6_clear_68 : decode cX6_clear 68 = .ok (.aload_n 0, 1) := by decide +kernel
theorem dX6_clear_69 : decode cX6_clear 69 = .ok (.iconst 0, 1) := by decide +kernel
theorem dX6_clear_70 : decode cX6_clear 70 = .ok (.putfield 117, 3) := by decide +kernel
theorem dX6_clear_73 : decode cX6_clear 73 = .ok (.aload_n 0, 1) := by decide +kernel
theorem dX6_clear_74 : decode cX6_clear 74 = .ok (.iconst 0, 1) := by decide +kernel
theorem dX6_clear_75 : decode cX6_clear 75 = .ok (.putfield 120, 3) := by decide +kernel
theorem dX6_clear_78 : decode cX6_clear 78 = .ok (.aload_n 0, 1) := by decide +kernel
theorem dX6_clear_79 : decode cX6_clear 79 = .ok (.iconst 0, 1) := by decide +kernel
theorem dX6_clear_80 : decode cX6_clear 80 = .ok (.putfield 123, 3) := by decide +kernel
theorem dX6_clear_83 : decode cX6_clear 83 = .ok (.return_, 1) := by decide +kernel
theorem dX6_lay_0 : decode cX6_lay 0 = .ok (.aload_n 0, 1) := by decide +kernel
theorem dX6_lay_1 : decode cX6_lay 1 = .ok (.invokevirtual 126, 3) := by decide +kernel
theorem dX6_lay_4 : decode cX6_lay 4 = .ok (.aload_n 0, 1) := by decide +kernel
theorem dX6_lay_5 : decode cX6_lay 5 = .ok (.getfield 25, 3) := by decide +kernel
theorem dX6_lay_8 : decode cX6_lay 8 = .ok (.iconst 0, 1) := by decide +kernel
theorem dX6_lay_9 : decode cX6_lay 9 = .ok (.iaload, 1) := by decide +kernel
theorem dX6_lay_10 : decode cX6_lay 10 = .ok (.aload_n 0, 1) := by decide +kernel
theorem dX6_lay_11 : decode cX6_lay 11 = .ok (.getfield 25, 3) := by decide +kernel
theorem dX6_lay_14 : decode cX6_lay 14 = .ok (.iconst 1, 1) := by decide +kernel
theorem dX6_lay_15 : decode cX6_lay 15 = .ok (.iaload, 1) := by decide +kernel
theorem dX6_lay_16 : decode cX6_lay 16 = .ok (.imul, 1) := by decide +kernel
theorem dX6_lay_17 : decode cX6_lay 17 = .ok (.istore_n 3, 1) := by decide +kernel
theorem dX6_lay_18 : decode cX6_lay 18 = .ok (.iconst 0, 1) := by decide +kernel
theorem dX6_lay_19 : decode cX6_lay 19 = .ok (.istore 4, 2) := by decide +kernel
theorem dX6_lay_21 : decode cX6_lay 21 = .ok (.iload 4, 2) := by decide +kernel
theorem dX6_lay_23 : decode cX6_lay 23 = .ok (.iload_n 3, 1) := by decide +kernel
theorem dX6_lay_24 : decode cX6_lay 24 = .ok (.if_icmp .ge 18, 3) := by decide +kernel
theorem dX6_lay_27 : decode cX6_lay 27 = .ok (.aload_n 0, 1) := by decide +kernel
theorem dX6_lay_28 : decode cX6_lay 28 = .ok (.getfield 66, 3) := by decide +kernel
theorem dX6_lay_31 : decode cX6_lay 31 = .ok (.iload 4, 2) := by decide +kernel
theorem dX6_lay_33 : decode cX6_lay 33 = .ok (.iload 4, 2) := by decide +kernel
theorem dX6_lay_35 : decode cX6_lay 35 = .ok (.iastore, 1) := by decide +kernel
theorem dX6_lay_36 : decode cX6_lay 36 = .ok (.iinc 4 1, 3) := by decide +kernel
theorem dX6_lay_39 : decode cX6_lay 39 = .ok (.goto (-18), 3) := by decide +kernel
theorem dX6_lay_42 : decode cX6_lay 42 = .ok (.iload_n 2, 1) := by decide +kernel
theorem dX6_lay_43 : decode cX6_lay 43 = .ok (.i2l, 1) := by decide +kernel
theorem dX6_lay_44 : decode cX6_lay 44 = .ok (.lstore 4, 2) := by decide +kernel
theorem dX6_lay_46 : decode cX6_lay 46 = .ok (.iload_n 3, 1) := by decide +kernel
theorem dX6_lay_47 : decode cX6_lay 47 = .ok (.aload_n 0, 1) := by decide +kernel
theorem dX6_lay_48 : decode cX6_lay 48 = .ok (.getfield 25, 3) := by decide +kernel
theorem dX6_lay_51 : decode cX6_lay 51 = .ok (.bipush 6, 2) := by decide +kernel
theorem dX6_lay_53 : decode cX6_lay 53 = .ok (.iaload, 1) := by decide +kernel
theorem dX6_lay_54 : decode cX6_lay 54 = .ok (.isub, 1) := by decide +kernel
theorem dX6_lay_55 : decode cX6_lay 55 = .ok (.istore 6, 2) := by decide +kernel
theorem dX6_lay_57 : decode cX6_lay 57 = .ok (.iconst 0, 1) := by decide +kernel
theorem dX6_lay_58 : decode cX6_lay 58 = .ok (.istore 7, 2) := by decide +kernel
theorem dX6_lay_60 : decode cX6_lay 60 = .ok (.iload 7, 2) := by decide +kernel
theorem dX6_lay_62 : decode cX6_lay 62 = .ok (.iload 6, 2) := by decide +kernel
theorem dX6_lay_64 : decode cX6_lay 64 = .ok (.aload_n 0, 1) := by decide +kernel
theorem dX6_lay_65 : decode cX6_lay 65 = .ok (.getfield 25, 3) := by decide +kernel
theorem dX6_lay_68 : decode cX6_lay 68 = .ok (.bipush 6, 2) := by decide +kernel
theorem dX6_lay_70 : decode cX6_lay 70 = .ok (.iaload, 1) := by decide +kernel
theorem dX6_lay_71 : decode cX6_lay 71 = .ok (.iadd, 1) := by decide +kernel
theorem dX6_lay_72 : decode cX6_lay 72 = .ok (.if_icmp .ge 106, 3) := by decide +kernel
theorem dX6_lay_75 : decode cX6_lay 75 = .ok (.iload_n 1, 1) := by decide +kernel
theorem dX6_lay_76 : decode cX6_lay 76 = .ok (.lload 4, 2) := by decide +kernel
theorem dX6_lay_78 : decode cX6_lay 78 = .ok (.invokestatic 129, 3) := by decide +kernel
theorem dX6_lay_81 : decode cX6_lay 81 = .ok (.lstore 4, 2) := by decide +kernel
theorem dX6_lay_83 : decode cX6_lay 83 = .ok (.lload 4, 2) := by decide +kernel
theorem dX6_lay_85 : decode cX6_lay 85 = .ok (.ldc2_w 133, 3) := by decide +kernel
theorem dX6_lay_88 : decode cX6_lay 88 = .ok (.ldiv, 1) := by decide +kernel
theorem dX6_lay_89 : decode cX6_lay 89 = .ok (.ldc2_w 135, 3) := by decide +kernel
theorem dX6_lay_92 : decode cX6_lay 92 = .ok (.lrem, 1) := by decide +kernel
theorem dX6_lay_93 : decode cX6_lay 93 = .ok (.iload_n 3, 1) := by decide +kernel
theorem dX6_lay_94 : decode cX6_lay 94 = .ok (.i2l, 1) := by decide +kernel
theorem dX6_lay_95 : decode cX6_lay 95 = .ok (.lrem, 1) := by decide +kernel
theorem dX6_lay_96 : decode cX6_lay 96 = .ok (.l2i, 1) := by decide +kernel
theorem dX6_lay_97 : decode cX6_lay 97 = .ok (.istore 8, 2) := by decide +kernel
theorem dX6_lay_99 : decode cX6_lay 99 = .ok (.aload_n 0, 1) := by decide +kernel
theorem dX6_lay_100 : decode cX6_lay 100 = .ok (.getfield 66, 3) := by decide +kernel
theorem dX6_lay_103 : decode cX6_lay 103 = .ok (.iload 8, 2) := by decide +kernel
theorem dX6_lay_105 : decode cX6_lay 105 = .ok (.iaload, 1) := by decide +kernel
theorem dX6_lay_106 : decode cX6_lay 106 = .ok (.istore 9, 2) := by decide +kernel
theorem dX6_lay_108 : decode cX6_lay 108 = .ok (.aload_n 0, 1) := by decide +kernel
theorem dX6_lay_109 : decode cX6_lay 109 = .ok (.getfield 66, 3) := by decide +kernel
theorem dX6_lay_112 : decode cX6_lay 112 = .ok (.iload 8, 2) := by decide +kernel
theorem dX6_lay_114 : decode cX6_lay 114 = .ok (.aload_n 0, 1) := by decide +kernel
theorem dX6_lay_115 : decode cX6_lay 115 = .ok (.getfield 66, 3) := by decide +kernel
theorem dX6_lay_118 : decode cX6_lay 118 = .ok (.iload_n 3, 1) := by decide +kernel
theorem dX6_lay_119 : decode cX6_lay 119 = .ok (.iconst 1, 1) := by decide +kernel
theorem dX6_lay_120 : decode cX6_lay 120 = .ok (.isub, 1) := by decide +kernel
theorem dX6_lay_121 : decode cX6_lay 121 = .ok (.iaload, 1) := by decide +kernel
theorem dX6_lay_122 : decode cX6_lay 122 = .ok (.iastore, 1) := by decide +kernel
theorem dX6_lay_123 : decode cX6_lay 123 = .ok (.iinc 3 (-1), 3) := by decide +kernel
theorem dX6_lay_126 : decode cX6_lay 126 = .ok (.iload 7, 2) := by decide +kernel
theorem dX6_lay_128 : decode cX6_lay 128 = .ok (.iload 6, 2) := by decide +kernel
theorem dX6_lay_130 : decode cX6_lay 130 = .ok (.if_icmp .ge 21, 3) := by decide +kernel
theorem dX6_lay_133 : decode cX6_lay 133 = .ok (.aload_n 0, 1) := by decide +kernel
theorem dX6_lay_134 : decode cX6_lay 134 = .ok (.iload 7, 2) := by decide +kernel
theorem dX6_lay_136 : decode cX6_lay 136 = .ok (.aload_n 0, 1) := by decide +kernel
theorem dX6_lay_137 : decode cX6_lay 137 = .ok (.getfield 25, 3) := by decide +kernel
theorem dX6_lay_140 : decode cX6_lay 140 = .ok (.iconst 2, 1) := by decide +kernel
theorem dX6_lay_141 : decode cX6_lay 141 = .ok (.iaload, 1) := by decide +kernel
theorem dX6_lay_142 : decode cX6_lay 142 = .ok (.irem, 1) := by decide +kernel
theorem dX6_lay_143 : decode cX6_lay 143 = .ok (.iload 9, 2) := by decide +kernel
theorem dX6_lay_145 : decode cX6_lay 145 = .ok (.invokevirtual 137, 3) := by decide +kernel
theorem dX6_lay_148 : decode cX6_lay 148 = .ok (.goto 24, 3) := by decide +kernel
theorem dX6_lay_151 : decode cX6_lay 151 = .ok (.aload_n 0, 1) := by decide +kernel
theorem dX6_lay_152 : decode cX6_lay 152 = .ok (.getfield 51, 3) := by decide +kernel
theorem dX6_lay_155 : decode cX6_lay 155 = .ok (.aload_n 0, 1) := by decide +kernel
theorem dX6_lay_156 : decode cX6_lay 156 = .ok (.getfield 120, 3) := by decide +kernel
theorem dX6_lay_159 : decode cX6_lay 159 = .ok (.iload 9, 2) := by decide +kernel
theorem dX6_lay_161 : decode cX6_lay 161 = .ok (.iastore, 1) := by decide +kernel
theorem dX6_lay_162 : decode cX6_lay 162 = .ok (.aload_n 0, 1) := by decide +kernel
theorem dX6_lay_163 : decode cX6_lay 163 = .ok (.dup, 1) := by decide +kernel
theorem dX6_lay_164 : decode cX6_lay 164 = .ok (.getfield 120, 3) := by decide +kernel
theorem dX6_lay_167 : decode cX6_lay 167 = .ok (.iconst 1, 1) := by decide +kernel
theorem dX6_lay_168 : decode cX6_lay 168 = .ok (.iadd, 1) := by decide +kernel
theorem dX6_lay_169 : decode cX6_lay 169 = .ok (.putfield 120, 3) := by decide +kernel
theorem dX6_lay_172 : decode cX6_lay 172 = .ok (.iinc 7 1, 3) := by decide +kernel
theorem dX6_lay_175 : decode cX6_lay 175 = .ok (.goto (-115), 3) := by decide +kernel
theorem dX6_lay_178 : decode cX6_lay 178 = .ok (.iconst 0, 1) := by decide +kernel
theorem dX6_lay_179 : decode cX6_lay 179 = .ok (.istore 7, 2) := by decide +kernel
theorem dX6_lay_181 : decode cX6_lay 181 = .ok (.iload 7, 2) := by decide +kernel
theorem dX6_lay_183 : decode cX6_lay 183 = .ok (.aload_n 0, 1) := by decide +kernel
theorem dX6_lay_184 : decode cX6_lay 184 = .ok (.getfield 25, 3) := by decide +kernel
theorem dX6_lay_187 : decode cX6_lay 187 = .ok (.iconst 2, 1) := by decide +kernel
theorem dX6_lay_188 : decode cX6_lay 188 = .ok (.iaload, 1) := by decide +kernel
theorem dX6_lay_189 : decode cX6_lay 189 = .ok (.if_icmp .ge 50, 3) := by decide +kernel
theorem dX6_lay_192 : decode cX6_lay 192 = .ok (.aload_n 0, 1) := by decide +kernel
theorem dX6_lay_193 : decode cX6_lay 193 = .ok (.getfield 39, 3) := by decide +kernel
theorem dX6_lay_196 : decode cX6_lay 196 = .ok (.iload 7, 2) := by decide +kernel
theorem dX6_lay_198 : decode cX6_lay 198 = .ok (.aload_n 0, 1) := by decide +kernel
theorem dX6_lay_199 : decode cX6_lay 199 = .ok (.getfield 25, 3) := by decide +kernel
theorem dX6_lay_202 : decode cX6_lay 202 = .ok (.bipush 8, 2) := by decide +kernel
theorem dX6_lay_204 : decode cX6_lay 204 = .ok (.iaload, 1) := by decide +kernel
theorem dX6_lay_205 : decode cX6_lay 205 = .ok (.iconst 1, 1) := by decide +kernel
theorem dX6_lay_206 : decode cX6_lay 206 = .ok (.if_icmp .ne 25, 3) := by decide +kernel
theorem dX6_lay_209 : decode cX6_lay 209 = .ok (.aload_n 0, 1) := by decide +kernel
theorem dX6_lay_210 : decode cX6_lay 210 = .ok (.getfield 36, 3) := by decide +kernel
theorem dX6_lay_213 : decode cX6_lay 213 = .ok (.iload 7, 2) := by decide +kernel
theorem dX6_lay_215 : decode cX6_lay 215 = .ok (.iaload, 1) := by decide +kernel
theorem dX6_lay_216 : decode cX6_lay 216 = .ok (.ifCond .le 15, 3) := by decide +kernel
theorem dX6_lay_219 : decode cX6_lay 219 = .ok (.aload_n 0, 1) := by decide +kernel
theorem dX6_lay_220 : decode cX6_lay 220 = .ok (.getfield 36, 3) := by decide +kernel
theorem dX6_lay_223 : decode cX6_lay 223 = .ok (.iload 7, 2) := by decide +kernel
theorem dX6_lay_225 : decode cX6_lay 225 = .ok (.iaload, 1) := by decide +kernel
theorem dX6_lay_226 : decode cX6_lay 226 = .ok (.iconst 1, 1) := by decide +kernel
theorem dX6_lay_227 : decode cX6_lay 227 = .ok (.isub, 1) := by decide +kernel
theorem dX6_lay_228 : decode cX6_lay 228 = .ok (.goto 4, 3) := by decide +kernel
theorem dX6_lay_231 : decode cX6_lay 231 = .ok (.iconst 0, 1) := by decide +kernel
theorem dX6_lay_232 : decode cX6_lay 232 = .ok (.iastore, 1) := by decide +kernel
theorem dX6_lay_233 : decode cX6_lay 233 = .ok (.iinc 7 1, 3) := by decide +kernel
theorem dX6_lay_236 : decode cX6_lay 236 = .ok (.goto (-55), 3) := by decide +kernel
theorem dX6_lay_239 : decode cX6_lay 239 = .ok (.return_, 1) := by decide +kernel
theorem dX6_deal_0 : decode cX6_deal 0 = .ok (.aload_n 0, 1) := by decide +kernel
theorem dX6_deal_1 : decode cX6_deal 1 = .ok (.iload_n 1, 1) := by decide +kernel
theorem dX6_deal_2 : decode cX6_deal 2 = .ok (.iconst 0, 1) := by decide +kernel
theorem dX6_deal_3 : decode cX6_deal 3 = .ok (.iconst 1, 1) := by decide +kernel
theorem dX6_deal_4 : decode cX6_deal 4 = .ok (.invokestatic 99, 3) := by decide +kernel
theorem dX6_deal_7 : decode cX6_deal 7 = .ok (.ifCond .eq 17, 3) := by decide +kernel
theorem dX6_deal_10 : decode cX6_deal 10 = .ok (.iload_n 2, 1) := by decide +kernel
theorem dX6_deal_11 : decode cX6_deal 11 = .ok (.iconst 0, 1) := by decide +kernel
theorem dX6_deal_12 : decode cX6_deal 12 = .ok (.ldc 140, 2) := by decide +kernel
theorem dX6_deal_14 : decode cX6_deal 14 = .ok (.invokestatic 99, 3) := by decide +kernel
theorem dX6_deal_17 : decode cX6_deal 17 = .ok (.ifCond .eq 7, 3) := by decide +kernel
theorem dX6_deal_20 : decode cX6_deal 20 = .ok (.iconst 0, 1) := by decide +kernel
theorem dX6_deal_21 : decode cX6_deal 21 = .ok (.goto 4, 3) := by decide +kernel
theorem dX6_deal_24 : decode cX6_deal 24 = .ok (.iconst 1, 1) := by decide +kernel
theorem dX6_deal_25 : decode cX6_deal 25 = .ok (.invokevirtual 103, 3) := by decide +kernel
theorem dX6_deal_28 : decode cX6_deal 28 = .ok (.ifCond .ne 5, 3) := by decide +kernel
theorem dX6_deal_31 : decode cX6_deal 31 = .ok (.iconst 0, 1) := by decide +kernel
theorem dX6_deal_32 : decode cX6_deal 32 = .ok (.ireturn, 1) := by decide +kernel
theorem dX6_deal_33 : decode cX6_deal 33 = .ok (.aload_n 0, 1) := by decide +kernel
theorem dX6_deal_34 : decode cX6_deal 34 = .ok (.dup, 1) := by decide +kernel
theorem dX6_deal_35 : decode cX6_deal 35 = .ok (.getfield 141, 3) := by decide +kernel
theorem dX6_deal_38 : decode cX6_deal 38 = .ok (.aload_n 0, 1) := by decide +kernel
theorem dX6_deal_39 : decode cX6_deal 39 = .ok (.invokevirtual 144, 3) := by decide +kernel
theorem dX6_deal_42 : decode cX6_deal 42 = .ok (.iadd, 1) := by decide +kernel
theorem dX6_deal_43 : decode cX6_deal 43 = .ok (.putfield 141, 3) := by decide +kernel
theorem dX6_deal_46 : decode cX6_deal 46 = .ok (.aload_n 0, 1) := by decide +kernel
theorem dX6_deal_47 : decode cX6_deal 47 = .ok (.invokevirtual 72, 3) := by decide +kernel
theorem dX6_deal_50 : decode cX6_deal 50 = .ok (.aload_n 0, 1) := by decide +kernel
theorem dX6_deal_51 : decode cX6_deal 51 = .ok (.iload_n 1, 1) := by decide +kernel
theorem dX6_deal_52 : decode cX6_deal 52 = .ok (.iload_n 2, 1) := by decide +kernel
theorem dX6_deal_53 : decode cX6_deal 53 = .ok (.invokevirtual 75, 3) := by decide +kernel
theorem dX6_deal_56 : decode cX6_deal 56 = .ok (.aload_n 0, 1) := by decide +kernel
theorem dX6_deal_57 : decode cX6_deal 57 = .ok (.iconst 0, 1) := by decide +kernel
theorem dX6_deal_58 : decode cX6_deal 58 = .ok (.putfield 148, 3) := by decide +kernel
theorem dX6_deal_61 : decode cX6_deal 61 = .ok (.aload_n 0, 1) := by decide +kernel
theorem dX6_deal_62 : decode cX6_deal 62 = .ok (.iconst 0, 1) := by decide +kernel
theorem dX6_deal_63 : decode cX6_deal 63 = .ok (.putfield 151, 3) := by decide +kernel
theorem dX6_deal_66 : decode cX6_deal 66 = .ok (.aload_n 0, 1) := by decide +kernel
theorem dX6_deal_67 : decode cX6_deal 67 = .ok (.aload_n 0, 1) := by decide +kernel
theorem dX6_deal_68 : decode cX6_deal 68 = .ok (.getfield 54, 3) := by decide +kernel
theorem dX6_deal_71 : decode cX6_deal 71 = .ok (.iconst 0, 1) := by decide +kernel
theorem dX6_deal_72 : decode cX6_deal 72 = .ok (.invokevirtual 79, 3) := by decide +kernel
theorem dX6_deal_75 : decode cX6_deal 75 = .ok (.aload_n 0, 1) := by decide +kernel
theorem dX6_deal_76 : decode cX6_deal 76 = .ok (.getfield 25, 3) := by decide +kernel
theorem dX6_deal_79 : decode cX6_deal 79 = .ok (.iconst 0, 1) := by decide +kernel
theorem dX6_deal_80 : decode cX6_deal 80 = .ok (.iaload, 1) := by decide +kernel
theorem dX6_deal_81 : decode cX6_deal 81 = .ok (.aload_n 0, 1) := by decide +kernel
theorem dX6_deal_82 : decode cX6_deal 82 = .ok (.getfield 25, 3) := by decide +kernel
theorem dX6_deal_85 : decode cX6_deal 85 = .ok (.iconst 1, 1) := by decide +kernel
theorem dX6_deal_86 : decode cX6_deal 86 = .ok (.iaload, 1) := by decide +kernel
theorem dX6_deal_87 : decode cX6_deal 87 = .ok (.imul, 1) := by decide +kernel
theorem dX6_deal_88 : decode cX6_deal 88 = .ok (.aload_n 0, 1) := by decide +kernel
theorem dX6_deal_89 : decode cX6_deal 89 = .ok (.getfield 25, 3) := by decide +kernel
theorem dX6_deal_92 : decode cX6_deal 92 = .ok (.bipush 6, 2) := by decide +kernel
theorem dX6_deal_94 : decode cX6_deal 94 = .ok (.iaload, 1) := by decide +kernel
theorem dX6_deal_95 : decode cX6_deal 95 = .ok (.isub, 1) := by decide +kernel
theorem dX6_deal_96 : decode cX6_deal 96 = .ok (.ireturn, 1) := by decide +kernel
theorem dX6_numberOf_0 : decode cX6_numberOf 0 = .ok (.aload_n 0, 1) := by decide +kernel
theorem dX6_numberOf_1 : decode cX6_numberOf 1 = .ok (.iload_n 1, 1) := by decide +kernel
theorem dX6_numberOf_2 : decode cX6_numberOf 2 = .ok (.iconst 0, 1) := by decide +kernel
theorem dX6_numberOf_3 : decode cX6_numberOf 3 = .ok (.iconst 1, 1) := by decide +kernel
theorem dX6_numberOf_4 : decode cX6_numberOf 4 = .ok (.invokestatic 99, 3) := by decide +kernel
theorem dX6_numberOf_7 : decode cX6_numberOf 7 = .ok (.ifCond .eq 7, 3) := by decide +kernel
theorem dX6_numberOf_10 : decode cX6_numberOf 10 = .ok (.iconst 0, 1) := by decide +kernel
theorem dX6_numberOf_11 : decode cX6_numberOf 11 = .ok (.goto 4, 3) := by decide +kernel
theorem dX6_numberOf_14 : decode cX6_numberOf 14 = .ok (.iconst 1, 1) := by decide +kernel
theorem dX6_numberOf_15 : decode cX6_numberOf 15 = .ok (.invokevirtual 103, 3) := by decide +kernel
theorem dX6_numberOf_18 : decode cX6_numberOf 18 = .ok (.ifCond .ne 5, 3) := by decide +kernel
theorem dX6_numberOf_21 : decode cX6_numberOf 21 = .ok (.iconst 0, 1) := by decide +kernel
theorem dX6_numberOf_22 : decode cX6_numberOf 22 = .ok (.ireturn, 1) := by decide +kernel
theorem dX6_numberOf_23 : decode cX6_numberOf 23 = .ok (.aload_n 0, 1) := by decide +kernel
theorem dX6_numberOf_24 : decode cX6_numberOf 24 = .ok (.aload_n 0, 1) := by decide +kernel
theorem dX6_numberOf_25 : decode cX6_numberOf 25 = .ok (.getfield 57, 3) := by decide +kernel
theorem dX6_numberOf_28 : decode cX6_numberOf 28 = .ok (.iconst 0, 1) := by decide +kernel
theorem dX6_numberOf_29 : decode cX6_numberOf 29 = .ok (.invokevirtual 79, 3) := by decide +kernel
theorem dX6_numberOf_32 : decode cX6_numberOf 32 = .ok (.iconst (-1), 1) := by decide +kernel
theorem dX6_numberOf_33 : decode cX6_numberOf 33 = .ok (.istore_n 2, 1) := by decide +kernel
theorem dX6_numberOf_34 : decode cX6_numberOf 34 = .ok (.sipush 500, 3) := by decide +kernel
theorem dX6_numberOf_37 : decode cX6_numberOf 37 = .ok (.istore_n 3, 1) := by decide +kernel
theorem dX6_numberOf_38 : decode cX6_numberOf 38 = .ok (.iload_n 3, 1) := by decide +kernel
theorem dX6_numberOf_39 : decode cX6_numberOf 39 = .ok (.ifCond .lt 84, 3) := by decide +kernel
theorem dX6_numberOf_42 : decode cX6_numberOf 42 = .ok (.aload_n 0, 1) := by decide +kernel
theorem dX6_numberOf_43 : decode cX6_numberOf 43 = .ok (.iload_n 1, 1) := by decide +kernel
theorem dX6_numberOf_44 : decode cX6_numberOf 44 = .ok (.iload_n 3, 1) := by decide +kernel
theorem dX6_numberOf_45 : decode cX6_numberOf 45 = .ok (.invokevirtual 75, 3) := by decide +kernel
theorem dX6_numberOf_48 : decode cX6_numberOf 48 = .ok (.aload_n 0, 1) := by decide +kernel
theorem dX6_numberOf_49 : decode cX6_numberOf 49 = .ok (.aload_n 0, 1) := by decide +kernel
theorem dX6_numberOf_50 : decode cX6_numberOf 50 = .ok (.getfield 60, 3) := by decide +kernel
theorem dX6_numberOf_53 : decode cX6_numberOf 53 = .ok (.iconst 0, 1) := by decide +kernel
theorem dX6_numberOf_54 : decode cX6_numberOf 54 = .ok (.invokevirtual 79, 3) := by decide +kernel
theorem dX6_numberOf_57 : decode cX6_numberOf 57 = .ok (.iconst 1, 1) := by decide +kernel
theorem dX6_numberOf_58 : decode cX6_numberOf 58 = .ok (.istore 4, 2) := by decide +kernel
theorem dX6_numberOf_60 : decode cX6_numberOf 60 = .ok (.iconst 0, 1) := by decide +kernel
theorem dX6_numberOf_61 : decode cX6_numberOf 61 = .ok (.istore 5, 2) := by decide +kernel
theorem dX6_numberOf_63 : decode cX6_numberOf 63 = .ok (.iload 5, 2) := by decide +kernel
theorem dX6_numberOf_65 : decode cX6_numberOf 65 = .ok (.bipush 8, 2) := by decide +kernel
theorem dX6_numberOf_67 : decode cX6_numberOf 67 = .ok (.if_icmp .ge 39, 3) := by decide +kernel
theorem dX6_numberOf_70 : decode cX6_numberOf 70 = .ok (.iload 4, 2) := by decide +kernel
theorem dX6_numberOf_72 : decode cX6_numberOf 72 = .ok (.ifCond .eq 25, 3) := by decide +kernel
theorem dX6_numberOf_75 : decode cX6_numberOf 75 = .ok (.aload_n 0, 1) := by decide +kernel
theorem dX6_numberOf_76 : decode cX6_numberOf 76 = .ok (.getfield 60, 3) := by decide +kernel
theorem dX6_numberOf_79 : decode cX6_numberOf 79 = .ok (.iload 5, 2) := by decide +kernel
theorem dX6_numberOf_81 : decode cX6_numberOf 81 = .ok (.laload, 1) := by decide +kernel
theorem dX6_numberOf_82 : decode cX6_numberOf 82 = .ok (.aload_n 0, 1) := by decide +kernel
theorem dX6_numberOf_83 : decode cX6_numberOf 83 = .ok (.getfield 54, 3) := by decide +kernel
theorem dX6_numberOf_86 : decode cX6_numberOf 86 = .ok (.iload 5, 2) := by decide +kernel
theorem dX6_numberOf_88 : decode cX6_numberOf 88 = .ok (.laload, 1) := by decide +kernel
theorem dX6_numberOf_89 : decode cX6_numberOf 89 = .ok (.lcmp, 1) := by decide +kernel
theorem dX6_numberOf_90 : decode cX6_numberOf 90 = .ok (.ifCond .ne 7, 3) := by decide +kernel
theorem dX6_numberOf_93 : decode cX6_numberOf 93 = .ok (.iconst 1, 1) := by decide +kernel
theorem dX6_numberOf_94 : decode cX6_numberOf 94 = .ok (.goto 4, 3) := by decide +kernel
theorem dX6_numberOf_97 : decode cX6_numberOf 97 = .ok (.iconst 0, 1) := by decide +kernel
theorem dX6_numberOf_98 : decode cX6_numberOf 98 = .ok (.istore 4, 2) := by decide +kernel
theorem dX6_numberOf_100 : decode cX6_numberOf 100 = .ok (.iinc 5 1, 3) := by decide +kernel
theorem dX6_numberOf_103 : decode cX6_numberOf 103 = .ok (.goto (-40), 3) := by decide +kernel
theorem dX6_numberOf_106 : decode cX6_numberOf 106 = .ok (.iload 4, 2) := by decide +kernel
theorem dX6_numberOf_108 : decode cX6_numberOf 108 = .ok (.ifCond .eq 7, 3) := by decide +kernel
theorem dX6_numberOf_111 : decode cX6_numberOf 111 = .ok (.iload_n 3, 1) := by decide +kernel
theorem dX6_numberOf_112 : decode cX6_numberOf 112 = .ok (.goto 4, 3) := by decide +kernel
theorem dX6_numberOf_115 : decode cX6_numberOf 115 = .ok (.iload_n 2, 1) := by decide +kernel
theorem dX6_numberOf_116 : decode cX6_numberOf 116 = .ok (.istore_n 2, 1) := by decide +kernel
theorem dX6_numberOf_117 : decode cX6_numberOf 117 = .ok (.iinc 3 (-1), 3) := by decide +kernel
theorem dX6_numberOf_120 : decode cX6_numberOf 120 = .ok (.goto (-82), 3) := by decide +kernel
theorem dX6_numberOf_123 : decode cX6_numberOf 123 = .ok (.aload_n 0, 1) := by decide +kernel
theorem dX6_numberOf_124 : decode cX6_numberOf 124 = .ok (.aload_n 0, 1) := by decide +kernel
theorem dX6_numberOf_125 : decode cX6_numberOf 125 = .ok (.getfield 57, 3) := by decide +kernel
theorem dX6_numberOf_128 : decode cX6_numberOf 128 = .ok (.iconst 0, 1) := by decide +kernel
theorem dX6_numberOf_129 : decode cX6_numberOf 129 = .ok (.invokevirtual 154, 3) := by decide +kernel
theorem dX6_numberOf_132 : decode cX6_numberOf 132 = .ok (.iload_n 2, 1) := by decide +kernel
theorem dX6_numberOf_133 : decode cX6_numberOf 133 = .ok (.ireturn, 1) := by decide +kernel
theorem dX6_push_0 : decode cX6_push 0 = .ok (.aload_n 0, 1) := by decide +kernel
theorem dX6_push_1 : decode cX6_push 1 = .ok (.getfield 32, 3) := by decide +kernel
theorem dX6_push_4 : decode cX6_push 4 = .ok (.iload_n 1, 1) := by decide +kernel
theorem dX6_push_5 : decode cX6_push 5 = .ok (.dup2, 1) := by decide +kernel
theorem dX6_push_6 : decode cX6_push 6 = .ok (.laload, 1) := by decide +kernel
theorem dX6_push_7 : decode cX6_push 7 = .ok (.iload_n 2, 1) := by decide +kernel
theorem dX6_push_8 : decode cX6_push 8 = .ok (.i2l, 1) := by decide +kernel
theorem dX6_push_9 : decode cX6_push 9 = .ok (.iconst 4, 1) := by decide +kernel
theorem dX6_push_10 : decode cX6_push 10 = .ok (.aload_n 0, 1) := by decide +kernel
theorem dX6_push_11 : decode cX6_push 11 = .ok (.getfield 36, 3) := by decide +kernel
theorem dX6_push_14 : decode cX6_push 14 = .ok (.iload_n 1, 1) := by decide +kernel
theorem dX6_push_15 : decode cX6_push 15 = .ok (.iaload, 1) := by decide +kernel
theorem dX6_push_16 : decode cX6_push 16 = .ok (.imul, 1) := by decide +kernel
theorem dX6_push_17 : decode cX6_push 17 = .ok (.lshl, 1) := by decide +kernel
theorem dX6_push_18 : decode cX6_push 18 = .ok (.lor, 1) := by decide +kernel
theorem dX6_push_19 : decode cX6_push 19 = .ok (.lastore, 1) := by decide +kernel
theorem dX6_push_20 : decode cX6_push 20 = .ok (.aload_n 0, 1) := by decide +kernel
theorem dX6_push_21 : decode cX6_push 21 = .ok (.getfield 36, 3) := by decide +kernel
theorem dX6_push_24 : decode cX6_push 24 = .ok (.iload_n 1, 1) := by decide +kernel
theorem dX6_push_25 : decode cX6_push 25 = .ok (.dup2, 1) := by decide +kernel
theorem dX6_push_26 : decode cX6_push 26 = .ok (.iaload, 1) := by decide +kernel
theorem dX6_push_27 : decode cX6_push 27 = .ok (.iconst 1, 1) := by decide +kernel
theorem dX6_push_28 : decode cX6_push 28 = .ok (.iadd, 1) := by decide +kernel
theorem dX6_push_29 : decode cX6_push 29 = .ok (.iastore, 1) := by decide +kernel
theorem dX6_push_30 : decode cX6_push 30 = .ok (.return_, 1) := by decide +kernel
theorem dX6_cardAt_0 : decode cX6_cardAt 0 = .ok (.aload_n 0, 1) := by decide +kernel
theorem dX6_cardAt_1 : decode cX6_cardAt 1 = .ok (.getfield 32, 3) := by decide +kernel
theorem dX6_cardAt_4 : decode cX6_cardAt 4 = .ok (.iload_n 1, 1) := by decide +kernel
theorem dX6_cardAt_5 : decode cX6_cardAt 5 = .ok (.laload, 1) := by decide +kernel
theorem dX6_cardAt_6 : decode cX6_cardAt 6 = .ok (.iconst 4, 1) := by decide +kernel
theorem dX6_cardAt_7 : decode cX6_cardAt 7 = .ok (.iload_n 2, 1) := by decide +kernel
theorem dX6_cardAt_8 : decode cX6_cardAt 8 = .ok (.imul, 1) := by decide +kernel
theorem dX6_cardAt_9 : decode cX6_cardAt 9 = .ok (.lushr, 1) := by decide +kernel
theorem dX6_cardAt_10 : decode cX6_cardAt 10 = .ok (.ldc2_w 157, 3) := by decide +kernel
theorem dX6_cardAt_13 : decode cX6_cardAt 13 = .ok (.land, 1) := by decide +kernel
theorem dX6_cardAt_14 : decode cX6_cardAt 14 = .ok (.l2i, 1) := by decide +kernel
theorem dX6_cardAt_15 : decode cX6_cardAt 15 = .ok (.ireturn, 1) := by decide +kernel
theorem dX6_pop_0 : decode cX6_pop 0 = .ok (.aload_n 0, 1) := by decide +kernel
theorem dX6_pop_1 : decode cX6_pop 1 = .ok (.getfield 36, 3) := by decide +kernel
theorem dX6_pop_4 : decode cX6_pop 4 = .ok (.iload_n 1, 1) := by decide +kernel
theorem dX6_pop_5 : decode cX6_pop 5 = .ok (.dup2, 1) := by decide +kernel
theorem dX6_pop_6 : decode cX6_pop 6 = .ok (.iaload, 1) := by decide +kernel
theorem dX6_pop_7 : decode cX6_pop 7 = .ok (.iconst 1, 1) := by decide +kernel
theorem dX6_pop_8 : decode cX6_pop 8 = .ok (.isub, 1) := by decide +kernel
theorem dX6_pop_9 : decode cX6_pop 9 = .ok (.iastore, 1) := by decide +kernel
theorem dX6_pop_10 : decode cX6_pop 10 = .ok (.aload_n 0, 1) := by decide +kernel
theorem dX6_pop_11 : decode cX6_pop 11 = .ok (.iload_n 1, 1) := by decide +kernel
theorem dX6_pop_12 : decode cX6_pop 12 = .ok (.aload_n 0, 1) := by decide +kernel
theorem dX6_pop_13 : decode cX6_pop 13 = .ok (.getfield 36, 3) := by decide +kernel
theorem dX6_pop_16 : decode cX6_pop 16 = .ok (.iload_n 1, 1) := by decide +kernel
theorem dX6_pop_17 : decode cX6_pop 17 = .ok (.iaload, 1) := by decide +kernel
theorem dX6_pop_18 : decode cX6_pop 18 = .ok (.invokevirtual 159, 3) := by decide +kernel
theorem dX6_pop_21 : decode cX6_pop 21 = .ok (.istore_n 2, 1) := by decide +kernel
theorem dX6_pop_22 : decode cX6_pop 22 = .ok (.aload_n 0, 1) := by decide +kernel
theorem dX6_pop_23 : decode cX6_pop 23 = .ok (.getfield 32, 3) := by decide +kernel
theorem dX6_pop_26 : decode cX6_pop 26 = .ok (.iload_n 1, 1) := by decide +kernel
theorem dX6_pop_27 : decode cX6_pop 27 = .ok (.dup2, 1) := by decide +kernel
theorem dX6_pop_28 : decode cX6_pop 28 = .ok (.laload, 1) := by decide +kernel
theorem dX6_pop_29 : decode cX6_pop 29 = .ok (.ldc2_w 157, 3) := by decide +kernel
theorem dX6_pop_32 : decode cX6_pop 32 = .ok (.iconst 4, 1) := by decide +kernel
theorem dX6_pop_33 : decode cX6_pop 33 = .ok (.aload_n 0, 1) := by decide +kernel
theorem dX6_pop_34 : decode cX6_pop 34 = .ok (.getfield 36, 3) := by decide +kernel
theorem dX6_pop_37 : decode cX6_pop 37 = .ok (.iload_n 1, 1) := by decide +kernel
theorem dX6_pop_38 : decode cX6_pop 38 = .ok (.iaload, 1) := by decide +kernel
theorem dX6_pop_39 : decode cX6_pop 39 = .ok (.imul, 1) := by decide +kernel
theorem dX6_pop_40 : decode cX6_pop 40 = .ok (.lshl, 1) := by decide +kernel
theorem dX6_pop_41 : decode cX6_pop 41 = .ok (.ldc2_w 163, 3) := by decide +kernel
theorem dX6_pop_44 : decode cX6_pop 44 = .ok (.lxor, 1) := by decide +kernel
theorem dX6_pop_45 : decode cX6_pop 45 = .ok (.land, 1) := by decide +kernel
theorem dX6_pop_46 : decode cX6_pop 46 = .ok (.lastore, 1) := by decide +kernel
theorem dX6_pop_47 : decode cX6_pop 47 = .ok (.aload_n 0, 1) := by decide +kernel
theorem dX6_pop_48 : decode cX6_pop 48 = .ok (.getfield 39, 3) := by decide +kernel
theorem dX6_pop_51 : decode cX6_pop 51 = .ok (.iload_n 1, 1) := by decide +kernel
theorem dX6_pop_52 : decode cX6_pop 52 = .ok (.aload_n 0, 1) := by decide +kernel
theorem dX6_pop_53 : decode cX6_pop 53 = .ok (.getfield 36, 3) := by decide +kernel
theorem dX6_pop_56 : decode cX6_pop 56 = .ok (.iload_n 1, 1) := by decide +kernel
theorem dX6_pop_57 : decode cX6_pop 57 = .ok (.iaload, 1) := by decide +kernel
theorem dX6_pop_58 : decode cX6_pop 58 = .ok (.ifCond .le 29, 3) := by decide +kernel
theorem dX6_pop_61 : decode cX6_pop 61 = .ok (.aload_n 0, 1) := by decide +kernel
theorem dX6_pop_62 : decode cX6_pop 62 = .ok (.getfield 39, 3) := by decide +kernel
theorem dX6_pop_65 : decode cX6_pop 65 = .ok (.iload_n 1, 1) := by decide +kernel
theorem dX6_pop_66 : decode cX6_pop 66 = .ok (.iaload, 1) := by decide +kernel
theorem dX6_pop_67 : decode cX6_pop 67 = .ok (.aload_n 0, 1) := by decide +kernel
theorem dX6_pop_68 : decode cX6_pop 68 = .ok (.getfield 36, 3) := by decide +kernel
theorem dX6_pop_71 : decode cX6_pop 71 = .ok (.iload_n 1, 1) := by decide +kernel
theorem dX6_pop_72 : decode cX6_pop 72 = .ok (.iaload, 1) := by decide +kernel
theorem dX6_pop_73 : decode cX6_pop 73 = .ok (.if_icmp .lt 14, 3) := by decide +kernel
theorem dX6_pop_76 : decode cX6_pop 76 = .ok (.aload_n 0, 1) := by decide +kernel
theorem dX6_pop_77 : decode cX6_pop 77 = .ok (.getfield 36, 3) := by decide +kernel
theorem dX6_pop_80 : decode cX6_pop 80 = .ok (.iload_n 1, 1) := by decide +kernel
theorem dX6_pop_81 : decode cX6_pop 81 = .ok (.iaload, 1) := by decide +kernel
theorem dX6_pop_82 : decode cX6_pop 82 = .ok (.iconst 1, 1) := by decide +kernel
theorem dX6_pop_83 : decode cX6_pop 83 = .ok (.isub, 1) := by decide +kernel
theorem dX6_pop_84 : decode cX6_pop 84 = .ok (.goto 9, 3) := by decide +kernel
theorem dX6_pop_87 : decode cX6_pop 87 = .ok (.aload_n 0, 1) := by decide +kernel
theorem dX6_pop_88 : decode cX6_pop 88 = .ok (.getfield 39, 3) := by decide +kernel
theorem dX6_pop_91 : decode cX6_pop 91 = .ok (.iload_n 1, 1) := by decide +kernel
theorem dX6_pop_92 : decode cX6_pop 92 = .ok (.iaload, 1) := by decide +kernel
theorem dX6_pop_93 : decode cX6_pop 93 = .ok (.iastore, 1) := by decide +kernel
theorem dX6_pop_94 : decode cX6_pop 94 = .ok (.iload_n 2, 1) := by decide +kernel
theorem dX6_pop_95 : decode cX6_pop 95 = .ok (.ireturn, 1) := by decide +kernel
theorem dX6_store_0 : decode cX6_store 0 = .ok (.lconst 0, 1) := by decide +kernel
theorem dX6_store_1 : decode cX6_store 1 = .ok (.lstore_n 3, 1) := by decide +kernel
theorem dX6_store_2 : decode cX6_store 2 = .ok (.iconst 0, 1) := by decide +kernel
theorem dX6_store_3 : decode cX6_store 3 = .ok (.istore 5, 2) := by decide +kernel
theorem dX6_store_5 : decode cX6_store 5 = .ok (.iload 5, 2) := by decide +kernel
theorem dX6_store_7 : decode cX6_store 7 = .ok (.iconst 5, 1) := by decide +kernel
theorem dX6_store_8 : decode cX6_store 8 = .ok (.if_icmp .ge 49, 3) := by decide +kernel
theorem dX6_store_11 : decode cX6_store 11 = .ok (.aload_n 1, 1) := by decide +kernel
theorem dX6_store_12 : decode cX6_store 12 = .ok (.iload_n 2, 1) := by decide +kernel
theorem dX6_store_13 : decode cX6_store 13 = .ok (.iload 5, 2) := by decide +kernel
theorem dX6_store_15 : decode cX6_store 15 = .ok (.iadd, 1) := by decide +kernel
theorem dX6_store_16 : decode cX6_store 16 = .ok (.aload_n 0, 1) := by decide +kernel
theorem dX6_store_17 : decode cX6_store 17 = .ok (.getfield 32, 3) := by decide +kernel
theorem dX6_store_20 : decode cX6_store 20 = .ok (.iload 5, 2) := by decide +kernel
theorem dX6_store_22 : decode cX6_store 22 = .ok (.laload, 1) := by decide +kernel
theorem dX6_store_23 : decode cX6_store 23 = .ok (.lastore, 1) := by decide +kernel
theorem dX6_store_24 : decode cX6_store 24 = .ok (.lload_n 3, 1) := by decide +kernel
theorem dX6_store_25 : decode cX6_store 25 = .ok (.aload_n 0, 1) := by decide +kernel
theorem dX6_store_26 : decode cX6_store 26 = .ok (.getfield 36, 3) := by decide +kernel
theorem dX6_store_29 : decode cX6_store 29 = .ok (.iload 5, 2) := by decide +kernel
theorem dX6_store_31 : decode cX6_store 31 = .ok (.iaload, 1) := by decide +kernel
theorem dX6_store_32 : decode cX6_store 32 = .ok (.aload_n 0, 1) := by decide +kernel
theorem dX6_store_33 : decode cX6_store 33 = .ok (.getfield 39, 3) := by decide +kernel
theorem dX6_store_36 : decode cX6_store 36 = .ok (.iload 5, 2) := by decide +kernel
theorem dX6_store_38 : decode cX6_store 38 = .ok (.iaload, 1) := by decide +kernel
theorem dX6_store_39 : decode cX6_store 39 = .ok (.iconst 5, 1) := by decide +kernel
theorem dX6_store_40 : decode cX6_store 40 = .ok (.ishl, 1) := by decide +kernel
theorem dX6_store_41 : decode cX6_store 41 = .ok (.ior, 1) := by decide +kernel
theorem dX6_store_42 : decode cX6_store 42 = .ok (.i2l, 1) := by decide +kernel
theorem dX6_store_43 : decode cX6_store 43 = .ok (.bipush 10, 2) := by decide +kernel
theorem dX6_store_45 : decode cX6_store 45 = .ok (.iload 5, 2) := by decide +kernel
theorem dX6_store_47 : decode cX6_store 47 = .ok (.imul, 1) := by decide +kernel
theorem dX6_store_48 : decode cX6_store 48 = .ok (.lshl, 1) := by decide +kernel
theorem dX6_store_49 : decode cX6_store 49 = .ok (.lor, 1) := by decide +kernel
theorem dX6_store_50 : decode cX6_store 50 = .ok (.lstore_n 3, 1) := by decide +kernel
theorem dX6_store_51 : decode cX6_store 51 = .ok (.iinc 5 1, 3) := by decide +kernel
theorem dX6_store_54 : decode cX6_store 54 = .ok (.goto (-49), 3) := by decide +kernel
theorem dX6_store_57 : decode cX6_store 57 = .ok (.aload_n 1, 1) := by decide +kernel
theorem dX6_store_58 : decode cX6_store 58 = .ok (.iload_n 2, 1) := by decide +kernel
theorem dX6_store_59 : decode cX6_store 59 = .ok (.iconst 5, 1) := by decide +kernel
theorem dX6_store_60 : decode cX6_store 60 = .ok (.iadd, 1) := by decide +kernel
theorem dX6_store_61 : decode cX6_store 61 = .ok (.lload_n 3, 1) := by decide +kernel
theorem dX6_store_62 : decode cX6_store 62 = .ok (.lastore, 1) := by decide +kernel
theorem dX6_store_63 : decode cX6_store 63 = .ok (.aload_n 0, 1) := by decide +kernel
theorem dX6_store_64 : decode cX6_store 64 = .ok (.getfield 42, 3) := by decide +kernel
theorem dX6_store_67 : decode cX6_store 67 = .ok (.iconst 0, 1) := by decide +kernel
theorem dX6_store_68 : decode cX6_store 68 = .ok (.iaload, 1) := by decide +kernel
theorem dX6_store_69 : decode cX6_store 69 = .ok (.i2l, 1) := by decide +kernel
theorem dX6_store_70 : decode cX6_store 70 = .ok (.lconst 1, 1) := by decide +kernel
theorem dX6_store_71 : decode cX6_store 71 = .ok (.ladd, 1) := by decide +kernel
theorem dX6_store_72 : decode cX6_store 72 = .ok (.aload_n 0, 1) := by decide +kernel
theorem dX6_store_73 : decode cX6_store 73 = .ok (.getfield 42, 3) := by decide +kernel
theorem dX6_store_76 : decode cX6_store 76 = .ok (.iconst 1, 1) := by decide +kernel
theorem dX6_store_77 : decode cX6_store 77 = .ok (.iaload, 1) := by decide +kernel
theorem dX6_store_78 : decode cX6_store 78 = .ok (.i2l, 1) := by decide +kernel
theorem dX6_store_79 : decode cX6_store 79 = .ok (.lconst 1, 1) := by decide +kernel
theorem dX6_store_80 : decode cX6_store 80 = .ok (.ladd, 1) := by decide +kernel
theorem dX6_store_81 : decode cX6_store 81 = .ok (.iconst 5, 1) := by decide +kernel
theorem dX6_store_82 : decode cX6_store 82 = .ok (.lshl, 1) := by decide +kernel
theorem dX6_store_83 : decode cX6_store 83 = .ok (.lor, 1) := by decide +kernel
theorem dX6_store_84 : decode cX6_store 84 = .ok (.aload_n 0, 1) := by decide +kernel
theorem dX6_store_85 : decode cX6_store 85 = .ok (.getfield 123, 3) := by decide +kernel
theorem dX6_store_88 : decode cX6_store 88 = .ok (.i2l, 1) := by decide +kernel
theorem dX6_store_89 : decode cX6_store 89 = .ok (.bipush 10, 2) := by decide +kernel
theorem dX6_store_91 : decode cX6_store 91 = .ok (.lshl, 1) := by decide +kernel
theorem dX6_store_92 : decode cX6_store 92 = .ok (.lor, 1) := by decide +kernel
theorem dX6_store_93 : decode cX6_store 93 = .ok (.aload_n 0, 1) := by decide +kernel
theorem dX6_store_94 : decode cX6_store 94 = .ok (.getfield 117, 3) := by decide +kernel
theorem dX6_store_97 : decode cX6_store 97 = .ok (.i2l, 1) := by decide +kernel
theorem dX6_store_98 : decode cX6_store 98 = .ok (.bipush 12, 2) := by decide +kernel
theorem dX6_store_100 : decode cX6_store 100 = .ok (.lshl, 1) := by decide +kernel
theorem dX6_store_101 : decode cX6_store 101 = .ok (.lor, 1) := by decide +kernel
theorem dX6_store_102 : decode cX6_store 102 = .ok (.aload_n 0, 1) := by decide +kernel
theorem dX6_store_103 : decode cX6_store 103 = .ok (.getfield 120, 3) := by decide +kernel
theorem dX6_store_106 : decode cX6_store 106 = .ok (.i2l, 1) := by decide +kernel
theorem dX6_store_107 : decode cX6_store 107 = .ok (.bipush 16, 2) := by decide +kernel
theorem dX6_store_109 : decode cX6_store 109 = .ok (.lshl, 1) := by decide +kernel
theorem dX6_store_110 : decode cX6_store 110 = .ok (.lor, 1) := by decide +kernel
theorem dX6_store_111 : decode cX6_store 111 = .ok (.lstore 5, 2) := by decide +kernel
theorem dX6_store_113 : decode cX6_store 113 = .ok (.iconst 0, 1) := by decide +kernel
theorem dX6_store_114 : decode cX6_store 114 = .ok (.istore 7, 2) := by decide +kernel
theorem dX6_store_116 : decode cX6_store 116 = .ok (.iload 7, 2) := by decide +kernel
theorem dX6_store_118 : decode cX6_store 118 = .ok (.iconst 4, 1) := by decide +kernel
theorem dX6_store_119 : decode cX6_store 119 = .ok (.if_icmp .ge 30, 3) := by decide +kernel
theorem dX6_store_122 : decode cX6_store 122 = .ok (.lload 5, 2) := by decide +kernel
theorem dX6_store_124 : decode cX6_store 124 = .ok (.aload_n 0, 1) := by decide +kernel
theorem dX6_store_125 : decode cX6_store 125 = .ok (.getfield 45, 3) := by decide +kernel
theorem dX6_store_128 : decode cX6_store 128 = .ok (.iload 7, 2) := by decide +kernel
theorem dX6_store_130 : decode cX6_store 130 = .ok (.iaload, 1) := by decide +kernel
theorem dX6_store_131 : decode cX6_store 131 = .ok (.i2l, 1) := by decide +kernel
theorem dX6_store_132 : decode cX6_store 132 = .ok (.bipush 20, 2) := by decide +kernel
theorem dX6_store_134 : decode cX6_store 134 = .ok (.iconst 3, 1) := by decide +kernel
theorem dX6_store_135 : decode cX6_store 135 = .ok (.iload 7, 2) := by decide +kernel
theorem dX6_store_137 : decode cX6_store 137 = .ok (.imul, 1) := by decide +kernel
theorem dX6_store_138 : decode cX6_store 138 = .ok (.iadd, 1) := by decide +kernel
theorem dX6_store_139 : decode cX6_store 139 = .ok (.lshl, 1) := by decide +kernel
theorem dX6_store_140 : decode cX6_store 140 = .ok (.lor, 1) := by decide +kernel
theorem dX6_store_141 : decode cX6_store 141 = .ok (.lstore 5, 2) := by decide +kernel
theorem dX6_store_143 : decode cX6_store 143 = .ok (.iinc 7 1, 3) := by decide +kernel
theorem dX6_store_146 : decode cX6_store 146 = .ok (.goto (-30), 3) := by decide +kernel
theorem dX6_store_149 : decode cX6_store 149 = .ok (.aload_n 1, 1) := by decide +kernel
theorem dX6_store_150 : decode cX6_store 150 = .ok (.iload_n 2, 1) := by decide +kernel
theorem dX6_store_151 : decode cX6_store 151 = .ok (.bipush 6, 2) := by decide +kernel
theorem dX6_store_153 : decode cX6_store 153 = .ok (.iadd, 1) := by decide +kernel
theorem dX6_store_154 : decode cX6_store 154 = .ok (.lload 5, 2) := by decide +kernel
theorem dX6_store_156 : decode cX6_store 156 = .ok (.lastore, 1) := by decide +kernel
theorem dX6_store_157 : decode cX6_store 157 = .ok (.lconst 0, 1) := by decide +kernel
theorem dX6_store_158 : decode cX6_store 158 = .ok (.lstore 7, 2) := by decide +kernel
theorem dX6_store_160 : decode cX6_store 160 = .ok (.iconst 0, 1) := by decide +kernel
theorem dX6_store_161 : decode cX6_store 161 = .ok (.istore 9, 2) := by decide +kernel
theorem dX6_store_163 : decode cX6_store 163 = .ok (.iload 9, 2) := by decide +kernel
theorem dX6_store_165 : decode cX6_store 165 = .ok (.bipush 8, 2) := by decide +kernel
theorem dX6_store_167 : decode cX6_store 167 = .ok (.if_icmp .ge 74, 3) := by decide +kernel
theorem dX6_store_170 : decode cX6_store 170 = .ok (.lload 7, 2) := by decide +kernel
theorem dX6_store_172 : decode cX6_store 172 = .ok (.iload 9, 2) := by decide +kernel
theorem dX6_store_174 : decode cX6_store 174 = .ok (.aload_n 0, 1) := by decide +kernel
theorem dX6_store_175 : decode cX6_store 175 = .ok (.getfield 117, 3) := by decide +kernel
theorem dX6_store_178 : decode cX6_store 178 = .ok (.if_icmp .ge 19, 3) := by decide +kernel
theorem dX6_store_181 : decode cX6_store 181 = .ok (.aload_n 0, 1) := by decide +kernel
theorem dX6_store_182 : decode cX6_store 182 = .ok (.getfield 48, 3) := by decide +kernel
theorem dX6_store_185 : decode cX6_store 185 = .ok (.iload 9, 2) := by decide +kernel
theorem dX6_store_187 : decode cX6_store 187 = .ok (.iaload, 1) := by decide +kernel
theorem dX6_store_188 : decode cX6_store 188 = .ok (.i2l, 1) := by decide +kernel
theorem dX6_store_189 : decode cX6_store 189 = .ok (.iconst 4, 1) := by decide +kernel
theorem dX6_store_190 : decode cX6_store 190 = .ok (.iload 9, 2) := by decide +kernel
theorem dX6_store_192 : decode cX6_store 192 = .ok (.imul, 1) := by decide +kernel
theorem dX6_store_193 : decode cX6_store 193 = .ok (.lshl, 1) := by decide +kernel
theorem dX6_store_194 : decode cX6_store 194 = .ok (.goto 4, 3) := by decide +kernel
theorem dX6_store_197 : decode cX6_store 197 = .ok (.lconst 0, 1) := by decide +kernel
theorem dX6_store_198 : decode cX6_store 198 = .ok (.lor, 1) := by decide +kernel
theorem dX6_store_199 : decode cX6_store 199 = .ok (.lstore 7, 2) := by decide +kernel
theorem dX6_store_201 : decode cX6_store 201 = .ok (.lload 7, 2) := by decide +kernel
theorem dX6_store_203 : decode cX6_store 203 = .ok (.iload 9, 2) := by decide +kernel
theorem dX6_store_205 : decode cX6_store 205 = .ok (.aload_n 0, 1) := by decide +kernel
theorem dX6_store_206 : decode cX6_store 206 = .ok (.getfield 120, 3) := by decide +kernel
theorem dX6_store_209 : decode cX6_store 209 = .ok (.if_icmp .ge 22, 3) := by decide +kernel
theorem dX6_store_212 : decode cX6_store 212 = .ok (.aload_n 0, 1) := by decide +kernel
theorem dX6_store_213 : decode cX6_store 213 = .ok (.getfield 51, 3) := by decide +kernel
theorem dX6_store_216 : decode cX6_store 216 = .ok (.iload 9, 2) := by decide +kernel
theorem dX6_store_218 : decode cX6_store 218 = .ok (.iaload, 1) := by decide +kernel
theorem dX6_store_219 : decode cX6_store 219 = .ok (.i2l, 1) := by decide +kernel
theorem dX6_store_220 : decode cX6_store 220 = .ok (.bipush 32, 2) := by decide +kernel
theorem dX6_store_222 : decode cX6_store 222 = .ok (.iconst 4, 1) := by decide +kernel
theorem dX6_store_223 : decode cX6_store 223 = .ok (.iload 9, 2) := by decide +kernel
theorem dX6_store_225 : decode cX6_store 225 = .ok (.imul, 1) := by decide +kernel
theorem dX6_store_226 : decode cX6_store 226 = .ok (.iadd, 1) := by decide +kernel
theorem dX6_store_227 : decode cX6_store 227 = .ok (.lshl, 1) := by decide +kernel
theorem dX6_store_228 : decode cX6_store 228 = .ok (.goto 4, 3) := by decide +kernel
theorem dX6_store_231 : decode cX6_store 231 = .ok (.lconst 0, 1) := by decide +kernel
theorem dX6_store_232 : decode cX6_store 232 = .ok (.lor, 1) := by decide +kernel
theorem dX6_store_233 : decode cX6_store 233 = .ok (.lstore 7, 2) := by decide +kernel
theorem dX6_store_235 : decode cX6_store 235 = .ok (.iinc 9 1, 3) := by decide +kernel
theorem dX6_store_238 : decode cX6_store 238 = .ok (.goto (-75), 3) := by decide +kernel
theorem dX6_store_241 : decode cX6_store 241 = .ok (.aload_n 1, 1) := by decide +kernel
theorem dX6_store_242 : decode cX6_store 242 = .ok (.iload_n 2, 1) := by decide +kernel
theorem dX6_store_243 : decode cX6_store 243 = .ok (.bipush 7, 2) := by decide +kernel
theorem dX6_store_245 : decode cX6_store 245 = .ok (.iadd, 1) := by decide +kernel
theorem dX6_store_246 : decode cX6_store 246 = .ok (.lload 7, 2) := by decide +kernel
theorem dX6_store_248 : decode cX6_store 248 = .ok (.lastore, 1) := by decide +kernel
theorem dX6_store_249 : decode cX6_store 249 = .ok (.return_, 1) := by decide +kernel
theorem dX6_load_0 : decode cX6_load 0 = .ok (.iconst 0, 1) := by decide +kernel
theorem dX6_load_1 : decode cX6_load 1 = .ok (.istore_n 3, 1) := by decide +kernel
theorem dX6_load_2 : decode cX6_load 2 = .ok (.iload_n 3, 1) := by decide +kernel
theorem dX6_load_3 : decode cX6_load 3 = .ok (.iconst 5, 1) := by decide +kernel
theorem dX6_load_4 : decode cX6_load 4 = .ok (.if_icmp .ge 58, 3) := by decide +kernel
theorem dX6_load_7 : decode cX6_load 7 = .ok (.aload_n 0, 1) := by decide +kernel
theorem dX6_load_8 : decode cX6_load 8 = .ok (.getfield 32, 3) := by decide +kernel
theorem dX6_load_11 : decode cX6_load 11 = .ok (.iload_n 3, 1) := by decide +kernel
theorem dX6_load_12 : decode cX6_load 12 = .ok (.aload_n 1, 1) := by decide +kernel
theorem dX6_load_13 : decode cX6_load 13 = .ok (.iload_n 2, 1) := by decide +kernel
theorem dX6_load_14 : decode cX6_load 14 = .ok (.iload_n 3, 1) := by decide +kernel
theorem dX6_load_15 : decode cX6_load 15 = .ok (.iadd, 1) := by decide +kernel
theorem dX6_load_16 : decode cX6_load 16 = .ok (.laload, 1) := by decide +kernel
theorem dX6_load_17 : decode cX6_load 17 = .ok (.lastore, 1) := by decide +kernel
theorem dX6_load_18 : decode cX6_load 18 = .ok (.aload_n 1, 1) := by decide +kernel
theorem dX6_load_19 : decode cX6_load 19 = .ok (.iload_n 2, 1) := by decide +kernel
theorem dX6_load_20 : decode cX6_load 20 = .ok (.iconst 5, 1) := by decide +kernel
theorem dX6_load_21 : decode cX6_load 21 = .ok (.iadd, 1) := by decide +kernel
theorem dX6_load_22 : decode cX6_load 22 = .ok (.laload, 1) := by decide +kernel
theorem dX6_load_23 : decode cX6_load 23 = .ok (.bipush 10, 2) := by decide +kernel
theorem dX6_load_25 : decode cX6_load 25 = .ok (.iload_n 3, 1) := by decide +kernel
theorem dX6_load_26 : decode cX6_load 26 = .ok (.imul, 1) := by decide +kernel
theorem dX6_load_27 : decode cX6_load 27 = .ok (.lushr, 1) := by decide +kernel
theorem dX6_load_28 : decode cX6_load 28 = .ok (.ldc2_w 165, 3) := by decide +kernel
theorem dX6_load_31 : decode cX6_load 31 = .ok (.land, 1) := by decide +kernel
theorem dX6_load_32 : decode cX6_load 32 = .ok (.l2i, 1) := by decide +kernel
theorem dX6_load_33 : decode cX6_load 33 = .ok (.istore 4, 2) := by decide +kernel
theorem dX6_load_35 : decode cX6_load 35 = .ok (.aload_n 0, 1) := by decide +kernel
theorem dX6_load_36 : decode cX6_load 36 = .ok (.getfield 36, 3) := by decide +kernel
theorem dX6_load_39 : decode cX6_load 39 = .ok (.iload_n 3, 1) := by decide +kernel
theorem dX6_load_40 : decode cX6_load 40 = .ok (.iload 4, 2) := by decide +kernel
theorem dX6_load_42 : decode cX6_load 42 = .ok (.bipush 31, 2) := by decide +kernel
theorem dX6_load_44 : decode cX6_load 44 = .ok (.iand, 1) := by decide +kernel
theorem dX6_load_45 : decode cX6_load 45 = .ok (.iastore, 1) := by decide +kernel
theorem dX6_load_46 : decode cX6_load 46 = .ok (.aload_n 0, 1) := by decide +kernel
theorem dX6_load_47 : decode cX6_load 47 = .ok (.getfield 39, 3) := by decide +kernel
theorem dX6_load_50 : decode cX6_load 50 = .ok (.iload_n 3, 1) := by decide +kernel
theorem dX6_load_51 : decode cX6_load 51 = .ok (.iload 4, 2) := by decide +kernel
theorem dX6_load_53 : decode cX6_load 53 = .ok (.iconst 5, 1) := by decide +kernel
theorem dX6_load_54 : decode cX6_load 54 = .ok (.ishr, 1) := by decide +kernel
theorem dX6_load_55 : decode cX6_load 55 = .ok (.iastore, 1) := by decide +kernel
theorem dX6_load_56 : decode cX6_load 56 = .ok (.iinc 3 1, 3) := by decide +kernel
theorem dX6_load_59 : decode cX6_load 59 = .ok (.goto (-57), 3) := by decide +kernel
theorem dX6_load_62 : decode cX6_load 62 = .ok (.aload_n 1, 1) := by decide +kernel
theorem dX6_load_63 : decode cX6_load 63 = .ok (.iload_n 2, 1) := by decide +kernel
theorem dX6_load_64 : decode cX6_load 64 = .ok (.bipush 6, 2) := by decide +kernel
theorem dX6_load_66 : decode cX6_load 66 = .ok (.iadd, 1) := by decide +kernel
theorem dX6_load_67 : decode cX6_load 67 = .ok (.laload, 1) := by decide +kernel
theorem dX6_load_68 : decode cX6_load 68 = .ok (.lstore_n 3, 1) := by decide +kernel
theorem dX6_load_69 : decode cX6_load 69 = .ok (.aload_n 0, 1) := by decide +kernel
theorem dX6_load_70 : decode cX6_load 70 = .ok (.getfield 42, 3) := by decide +kernel
theorem dX6_load_73 : decode cX6_load 73 = .ok (.iconst 0, 1) := by decide +kernel
theorem dX6_load_74 : decode cX6_load 74 = .ok (.lload_n 3, 1) := by decide +kernel
theorem dX6_load_75 : decode cX6_load 75 = .ok (.ldc2_w 167, 3) := by decide +kernel
theorem dX6_load_78 : decode cX6_load 78 = .ok (.land, 1) := by decide +kernel
theorem dX6_load_79 : decode cX6_load 79 = .ok (.l2i, 1) := by decide +kernel
theorem dX6_load_80 : decode cX6_load 80 = .ok (.iconst 1, 1) := by decide +kernel
theorem dX6_load_81 : decode cX6_load 81 = .ok (.isub, 1) := by decide +kernel
theorem dX6_load_82 : decode cX6_load 82 = .ok (.iastore, 1) := by decide +kernel
theorem dX6_load_83 : decode cX6_load 83 = .ok (.aload_n 0, 1) := by decide +kernel
theorem dX6_load_84 : decode cX6_load 84 = .ok (.getfield 42, 3) := by decide +kernel
theorem dX6_load_87 : decode cX6_load 87 = .ok (.iconst 1, 1) := by decide +kernel
theorem dX6_load_88 : decode cX6_load 88 = .ok (.lload_n 3, 1) := by decide +kernel
theorem dX6_load_89 : decode cX6_load 89 = .ok (.iconst 5, 1) := by decide +kernel
theorem dX6_load_90 : decode cX6_load 90 = .ok (.lushr, 1) := by decide +kernel
theorem dX6_load_91 : decode cX6_load 91 = .ok (.ldc2_w 167, 3) := by decide +kernel
theorem dX6_load_94 : decode cX6_load 94 = .ok (.land, 1) := by decide +kernel
theorem dX6_load_95 : decode cX6_load 95 = .ok (.l2i, 1) := by decide +kernel
theorem dX6_load_96 : decode cX6_load 96 = .ok (.iconst 1, 1) := by decide +kernel
theorem dX6_load_97 : decode cX6_load 97 = .ok (.isub, 1) := by decide +kernel
theorem dX6_load_98 : decode cX6_load 98 = .ok (.iastore, 1) := by decide +kernel
theorem dX6_load_99 : decode cX6_load 99 = .ok (.aload_n 0, 1) := by decide +kernel
theorem dX6_load_100 : decode cX6_load 100 = .ok (.lload_n 3, 1) := by decide +kernel
theorem dX6_load_101 : decode cX6_load 101 = .ok (.bipush 10, 2) := by decide +kernel
theorem dX6_load_103 : decode cX6_load 103 = .ok (.lushr, 1) := by decide +kernel
theorem dX6_load_104 : decode cX6_load 104 = .ok (.ldc2_w 169, 3) := by decide +kernel
theorem dX6_load_107 : decode cX6_load 107 = .ok (.land, 1) := by decide +kernel
theorem dX6_load_108 : decode cX6_load 108 = .ok (.l2i, 1) := by decide +kernel
theorem dX6_load_109 : decode cX6_load 109 = .ok (.putfield 123, 3) := by decide +kernel
theorem dX6_load_112 : decode cX6_load 112 = .ok (.aload_n 0, 1) := by decide +kernel
theorem dX6_load_113 : decode cX6_load 113 = .ok (.lload_n 3, 1) := by decide +kernel
theorem dX6_load_114 : decode cX6_load 114 = .ok (.bipush 12, 2) := by decide +kernel
theorem dX6_load_116 : decode cX6_load 116 = .ok (.lushr, 1) := by decide +kernel
theorem dX6_load_117 : decode cX6_load 117 = .ok (.ldc2_w 157, 3) := by decide +kernel
theorem dX6_load_120 : decode cX6_load 120 = .ok (.land, 1) := by decide +kernel
theorem dX6_load_121 : decode cX6_load 121 = .ok (.l2i, 1) := by decide +kernel
theorem dX6_load_122 : decode cX6_load 122 = .ok (.putfield 117, 3) := by decide +kernel
theorem dX6_load_125 : decode cX6_load 125 = .ok (.aload_n 0, 1) := by decide +kernel
theorem dX6_load_126 : decode cX6_load 126 = .ok (.lload_n 3, 1) := by decide +kernel
theorem dX6_load_127 : decode cX6_load 127 = .ok (.bipush 16, 2) := by decide +kernel
theorem dX6_load_129 : decode cX6_load 129 = .ok (.lushr, 1) := by decide +kernel
theorem dX6_load_130 : decode cX6_load 130 = .ok (.ldc2_w 157, 3) := by decide +kernel
theorem dX6_load_133 : decode cX6_load 133 = .ok (.land, 1) := by decide +kernel
theorem dX6_load_134 : decode cX6_load 134 = .ok (.l2i, 1) := by decide +kernel
theorem dX6_load_135 : decode cX6_load 135 = .ok (.putfield 120, 3) := by decide +kernel
theorem dX6_load_138 : decode cX6_load 138 = .ok (.iconst 0, 1) := by decide +kernel
theorem dX6_load_139 : decode cX6_load 139 = .ok (.istore 5, 2) := by decide +kernel
theorem dX6_load_141 : decode cX6_load 141 = .ok (.iload 5, 2) := by decide +kernel
theorem dX6_load_143 : decode cX6_load 143 = .ok (.iconst 4, 1) := by decide +kernel
theorem dX6_load_144 : decode cX6_load 144 = .ok (.if_icmp .ge 30, 3) := by decide +kernel
theorem dX6_load_147 : decode cX6_load 147 = .ok (.aload_n 0, 1) := by decide +kernel
theorem dX6_load_148 : decode cX6_load 148 = .ok (.getfield 45, 3) := by decide +kernel
theorem dX6_load_151 : decode cX6_load 151 = .ok (.iload 5, 2) := by decide +kernel
theorem dX6_load_153 : decode cX6_load 153 = .ok (.lload_n 3, 1) := by decide +kernel
theorem dX6_load_154 : decode cX6_load 154 = .ok (.bipush 20, 2) := by decide +kernel
theorem dX6_load_156 : decode cX6_load 156 = .ok (.iconst 3, 1) := by decide +kernel
theorem dX6_load_157 : decode cX6_load 157 = .ok (.iload 5, 2) := by decide +kernel
theorem dX6_load_159 : decode cX6_load 159 = .ok (.imul, 1) := by decide +kernel
theorem dX6_load_160 : decode cX6_load 160 = .ok (.iadd, 1) := by decide +kernel
theorem dX6_load_161 : decode cX6_load 161 = .ok (.lushr, 1) := by decide +kernel
theorem dX6_load_162 : decode cX6_load 162 = .ok (.ldc2_w 171, 3) := by decide +kernel
theorem dX6_load_165 : decode cX6_load 165 = .ok (.land, 1) := by decide +kernel
theorem dX6_load_166 : decode cX6_load 166 = .ok (.l2i, 1) := by decide +kernel
theorem dX6_load_167 : decode cX6_load 167 = .ok (.iastore, 1) := by decide +kernel
theorem dX6_load_168 : decode cX6_load 168 = .ok (.iinc 5 1, 3) := by decide +kernel
theorem dX6_load_171 : decode cX6_load 171 = .ok (.goto (-30), 3) := by decide +kernel
theorem dX6_load_174 : decode cX6_load 174 = .ok (.iconst 0, 1) := by decide +kernel
theorem dX6_load_175 : decode cX6_load 175 = .ok (.istore 5, 2) := by decide +kernel
theorem dX6_load_177 : decode cX6_load 177 = .ok (.iload 5, 2) := by decide +kernel
theorem dX6_load_179 : decode cX6_load 179 = .ok (.bipush 8, 2) := by decide +kernel
theorem dX6_load_181 : decode cX6_load 181 = .ok (.if_icmp .ge 58, 3) := by decide +kernel
theorem dX6_load_184 : decode cX6_load 184 = .ok (.aload_n 0, 1) := by decide +kernel
theorem dX6_load_185 : decode cX6_load 185 = .ok (.getfield 48, 3) := by decide +kernel
theorem dX6_load_188 : decode cX6_load 188 = .ok (.iload 5, 2) := by decide +kernel
theorem dX6_load_190 : decode cX6_load 190 = .ok (.aload_n 1, 1) := by decide +kernel
theorem dX6_load_191 : decode cX6_load 191 = .ok (.iload_n 2, 1) := by decide +kernel
theorem dX6_load_192 : decode cX6_load 192 = .ok (.bipush 7, 2) := by decide +kernel
theorem dX6_load_194 : decode cX6_load 194 = .ok (.iadd, 1) := by decide +kernel
theorem dX6_load_195 : decode cX6_load 195 = .ok (.laload, 1) := by decide +kernel
theorem dX6_load_196 : decode cX6_load 196 = .ok (.iconst 4, 1) := by decide +kernel
theorem dX6_load_197 : decode cX6_load 197 = .ok (.iload 5, 2) := by decide +kernel
theorem dX6_load_199 : decode cX6_load 199 = .ok (.imul, 1) := by decide +kernel
theorem dX6_load_200 : decode cX6_load 200 = .ok (.lushr, 1) := by decide +kernel
theorem dX6_load_201 : decode cX6_load 201 = .ok (.ldc2_w 157, 3) := by decide +kernel
theorem dX6_load_204 : decode cX6_load 204 = .ok (.land, 1) := by decide +kernel
theorem dX6_load_205 : decode cX6_load 205 = .ok (.l2i, 1) := by decide +kernel
theorem dX6_load_206 : decode cX6_load 206 = .ok (.iastore, 1) := by decide +kernel
theorem dX6_load_207 : decode cX6_load 207 = .ok (.aload_n 0, 1) := by decide +kernel
theorem dX6_load_208 : decode cX6_load 208 = .ok (.getfield 51, 3) := by decide +kernel
theorem dX6_load_211 : decode cX6_load 211 = .ok (.iload 5, 2) := by decide +kernel
theorem dX6_load_213 : decode cX6_load 213 = .ok (.aload_n 1, 1) := by decide +kernel
theorem dX6_load_214 : decode cX6_load 214 = .ok (.iload_n 2, 1) := by decide +kernel
theorem dX6_load_215 : decode cX6_load 215 = .ok (.bipush 7, 2) := by decide +kernel
theorem dX6_load_217 : decode cX6_load 217 = .ok (.iadd, 1) := by decide +kernel
theorem dX6_load_218 : decode cX6_load 218 = .ok (.laload, 1) := by decide +kernel
theorem dX6_load_219 : decode cX6_load 219 = .ok (.bipush 32, 2) := by decide +kernel
theorem dX6_load_221 : decode cX6_load 221 = .ok (.iconst 4, 1) := by decide +kernel
theorem dX6_load_222 : decode cX6_load 222 = .ok (.iload 5, 2) := by decide +kernel
theorem dX6_load_224 : decode cX6_load 224 = .ok (.imul, 1) := by decide +kernel
theorem dX6_load_225 : decode cX6_load 225 = .ok (.iadd, 1) := by decide +kernel
theorem dX6_load_226 : decode cX6_load 226 = .ok (.lushr, 1) := by decide +kernel
theorem dX6_load_227 : decode cX6_load 227 = .ok (.ldc2_w 157, 3) := by decide +kernel
theorem dX6_load_230 : decode cX6_load 230 = .ok (.land, 1) := by decide +kernel
theorem dX6_load_231 : decode cX6_load 231 = .ok (.l2i, 1) := by decide +kernel
theorem dX6_load_232 : decode cX6_load 232 = .ok (.iastore, 1) := by decide +kernel
theorem dX6_load_233 : decode cX6_load 233 = .ok (.iinc 5 1, 3) := by decide +kernel
theorem dX6_load_236 : decode cX6_load 236 = .ok (.goto (-59), 3) := by decide +kernel
theorem dX6_load_239 : decode cX6_load 239 = .ok (.return_, 1) := by decide +kernel
theorem dX6_suitOf_0 : decode cX6_suitOf 0 = .ok (.iload_n 1, 1) := by decide +kernel
theorem dX6_suitOf_1 : decode cX6_suitOf 1 = .ok (.aload_n 0, 1) := by decide +kernel
theorem dX6_suitOf_2 : decode cX6_suitOf 2 = .ok (.getfield 25, 3) := by decide +kernel
theorem dX6_suitOf_5 : decode cX6_suitOf 5 = .ok (.iconst 1, 1) := by decide +kernel
theorem dX6_suitOf_6 : decode cX6_suitOf 6 = .ok (.iaload, 1) := by decide +kernel
theorem dX6_suitOf_7 : decode cX6_suitOf 7 = .ok (.idiv, 1) := by decide +kernel
theorem dX6_suitOf_8 : decode cX6_suitOf 8 = .ok (.ireturn, 1) := by decide +kernel
theorem dX6_rankOf_0 : decode cX6_rankOf 0 = .ok (.iload_n 1, 1) := by decide +kernel
theorem dX6_rankOf_1 : decode cX6_rankOf 1 = .ok (.aload_n 0, 1) := by decide +kernel
theorem dX6_rankOf_2 : decode cX6_rankOf 2 = .ok (.getfield 25, 3) := by decide +kernel
theorem dX6_rankOf_5 : decode cX6_rankOf 5 = .ok (.iconst 1, 1) := by decide +kernel
theorem dX6_rankOf_6 : decode cX6_rankOf 6 = .ok (.iaload, 1) := by decide +kernel
theorem dX6_rankOf_7 : decode cX6_rankOf 7 = .ok (.irem, 1) := by decide +kernel
theorem dX6_rankOf_8 : decode cX6_rankOf 8 = .ok (.iconst 1, 1) := by decide +kernel
theorem dX6_rankOf_9 : decode cX6_rankOf 9 = .ok (.iadd, 1) := by decide +kernel
theorem dX6_rankOf_10 : decode cX6_rankOf 10 = .ok (.ireturn, 1) := by decide +kernel
theorem dX6_fits_0 : decode cX6_fits 0 = .ok (.aload_n 0, 1) := by decide +kernel
theorem dX6_fits_1 : decode cX6_fits 1 = .ok (.iload_n 1, 1) := by decide +kernel
theorem dX6_fits_2 : decode cX6_fits 2 = .ok (.invokevirtual 173, 3) := by decide +kernel
theorem dX6_fits_5 : decode cX6_fits 5 = .ok (.istore_n 3, 1) := by decide +kernel
theorem dX6_fits_6 : decode cX6_fits 6 = .ok (.aload_n 0, 1) := by decide +kernel
theorem dX6_fits_7 : decode cX6_fits 7 = .ok (.iload_n 2, 1) := by decide +kernel
theorem dX6_fits_8 : decode cX6_fits 8 = .ok (.invokevirtual 173, 3) := by decide +kernel
theorem dX6_fits_11 : decode cX6_fits 11 = .ok (.istore 4, 2) := by decide +kernel
theorem dX6_fits_13 : decode cX6_fits 13 = .ok (.aload_n 0, 1) := by decide +kernel
theorem dX6_fits_14 : decode cX6_fits 14 = .ok (.getfield 25, 3) := by decide +kernel
theorem dX6_fits_17 : decode cX6_fits 17 = .ok (.iconst 4, 1) := by decide +kernel
theorem dX6_fits_18 : decode cX6_fits 18 = .ok (.iaload, 1) := by decide +kernel
theorem dX6_fits_19 : decode cX6_fits 19 = .ok (.ifCond .ne 17, 3) := by decide +kernel
theorem dX6_fits_22 : decode cX6_fits 22 = .ok (.iload_n 3, 1) := by decide +kernel
theorem dX6_fits_23 : decode cX6_fits 23 = .ok (.iload 4, 2) := by decide +kernel
theorem dX6_fits_25 : decode cX6_fits 25 = .ok (.if_icmp .ne 7, 3) := by decide +kernel
theorem dX6_fits_28 : decode cX6_fits 28 = .ok (.iconst 1, 1) := by decide +kernel
theorem dX6_fits_29 : decode cX6_fits 29 = .ok (.goto 32, 3) := by decide +kernel
theorem dX6_fits_32 : decode cX6_fits 32 = .ok (.iconst 0, 1) := by decide +kernel
theorem dX6_fits_33 : decode cX6_fits 33 = .ok (.goto 28, 3) := by decide +kernel
theorem dX6_fits_36 : decode cX6_fits 36 = .ok (.aload_n 0, 1) := by decide +kernel
theorem dX6_fits_37 : decode cX6_fits 37 = .ok (.getfield 25, 3) := by decide +kernel
theorem dX6_fits_40 : decode cX6_fits 40 = .ok (.iconst 4, 1) := by decide +kernel
theorem dX6_fits_41 : decode cX6_fits 41 = .ok (.iaload, 1) := by decide +kernel
theorem dX6_fits_42 : decode cX6_fits 42 = .ok (.iconst 2, 1) := by decide +kernel
theorem dX6_fits_43 : decode cX6_fits 43 = .ok (.if_icmp .eq 13, 3) := by decide +kernel
theorem dX6_fits_46 : decode cX6_fits 46 = .ok (.iload_n 3, 1) := by decide +kernel
theorem dX6_fits_47 : decode cX6_fits 47 = .ok (.iconst 2, 1) := by decide +kernel
theorem dX6_fits_48 : decode cX6_fits 48 = .ok (.irem, 1) := by decide +kernel
theorem dX6_fits_49 : decode cX6_fits 49 = .ok (.iload 4, 2) := by decide +kernel
theorem dX6_fits_51 : decode cX6_fits 51 = .ok (.iconst 2, 1) := by decide +kernel
theorem dX6_fits_52 : decode cX6_fits 52 = .ok (.irem, 1) := by decide +kernel
theorem dX6_fits_53 : decode cX6_fits 53 = .ok (.if_icmp .eq 7, 3) := by decide +kernel
theorem dX6_fits_56 : decode cX6_fits 56 = .ok (.iconst 1, 1) := by decide +kernel
theorem dX6_fits_57 : decode cX6_fits 57 = .ok (.goto 4, 3) := by decide +kernel
theorem dX6_fits_60 : decode cX6_fits 60 = .ok (.iconst 0, 1) := by decide +kernel
theorem dX6_fits_61 : decode cX6_fits 61 = .ok (.istore 5, 2) := by decide +kernel
theorem dX6_fits_63 : decode cX6_fits 63 = .ok (.iload 5, 2) := by decide +kernel
theorem dX6_fits_65 : decode cX6_fits 65 = .ok (.ifCond .eq 22, 3) := by decide +kernel
theorem dX6_fits_68 : decode cX6_fits 68 = .ok (.aload_n 0, 1) := by decide +kernel
theorem dX6_fits_69 : decode cX6_fits 69 = .ok (.iload_n 1, 1) := by decide +kernel
theorem dX6_fits_70 : decode cX6_fits 70 = .ok (.invokevirtual 177, 3) := by decide +kernel
theorem dX6_fits_73 : decode cX6_fits 73 = .ok (.aload_n 0, 1) := by decide +kernel
theorem dX6_fits_74 : decode cX6_fits 74 = .ok (.iload_n 2, 1) := by decide +kernel
theorem dX6_fits_75 : decode cX6_fits 75 = .ok (.invokevirtual 177, 3) := by decide +kernel
theorem dX6_fits_78 : decode cX6_fits 78 = .ok (.iconst 1, 1) := by decide +kernel
theorem dX6_fits_79 : decode cX6_fits 79 = .ok (.isub, 1) := by decide +kernel
theorem dX6_fits_80 : decode cX6_fits 80 = .ok (.if_icmp .ne 7, 3) := by decide +kernel
theorem dX6_fits_83 : decode cX6_fits 83 = .ok (.iconst 1, 1) := by decide +kernel
theorem dX6_fits_84 : decode cX6_fits 84 = .ok (.goto 4, 3) := by decide +kernel
theorem dX6_fits_87 : decode cX6_fits 87 = .ok (.iconst 0, 1) := by decide +kernel
theorem dX6_fits_88 : decode cX6_fits 88 = .ok (.ireturn, 1) := by decide +kernel
theorem dX6_lastOf_0 : decode cX6_lastOf 0 = .ok (.iload_n 1, 1) := by decide +kernel
theorem dX6_lastOf_1 : decode cX6_lastOf 1 = .ok (.iconst 5, 1) := by decide +kernel
theorem dX6_lastOf_2 : decode cX6_lastOf 2 = .ok (.if_icmp .ge 30, 3) := by decide +kernel
theorem dX6_lastOf_5 : decode cX6_lastOf 5 = .ok (.aload_n 0, 1) := by decide +kernel
theorem dX6_lastOf_6 : decode cX6_lastOf 6 = .ok (.getfield 36, 3) := by decide +kernel
theorem dX6_lastOf_9 : decode cX6_lastOf 9 = .ok (.iload_n 1, 1) := by decide +kernel
theorem dX6_lastOf_10 : decode cX6_lastOf 10 = .ok (.iaload, 1) := by decide +kernel
theorem dX6_lastOf_11 : decode cX6_lastOf 11 = .ok (.ifCond .le 19, 3) := by decide +kernel
theorem dX6_lastOf_14 : decode cX6_lastOf 14 = .ok (.aload_n 0, 1) := by decide +kernel
theorem dX6_lastOf_15 : decode cX6_lastOf 15 = .ok (.iload_n 1, 1) := by decide +kernel
theorem dX6_lastOf_16 : decode cX6_lastOf 16 = .ok (.aload_n 0, 1) := by decide +kernel
theorem dX6_lastOf_17 : decode cX6_lastOf 17 = .ok (.getfield 36, 3) := by decide +kernel
theorem dX6_lastOf_20 : decode cX6_lastOf 20 = .ok (.iload_n 1, 1) := by decide +kernel
theorem dX6_lastOf_21 : decode cX6_lastOf 21 = .ok (.iaload, 1) := by decide +kernel
theorem dX6_lastOf_22 : decode cX6_lastOf 22 = .ok (.iconst 1, 1) := by decide +kernel
theorem dX6_lastOf_23 : decode cX6_lastOf 23 = .ok (.isub, 1) := by decide +kernel
theorem dX6_lastOf_24 : decode cX6_lastOf 24 = .ok (.invokevirtual 159, 3) := by decide +kernel
theorem dX6_lastOf_27 : decode cX6_lastOf 27 = .ok (.goto 4, 3) := by decide +kernel
theorem dX6_lastOf_30 : decode cX6_lastOf 30 = .ok (.iconst (-1), 1) := by decide +kernel
theorem dX6_lastOf_31 : decode cX6_lastOf 31 = .ok (.ireturn, 1) := by decide +kernel
theorem dX6_lastOf_32 : decode cX6_lastOf 32 = .ok (.iload_n 1, 1) := by decide +kernel
theorem dX6_lastOf_33 : decode cX6_lastOf 33 = .ok (.bipush 7, 2) := by decide +kernel
theorem dX6_lastOf_35 : decode cX6_lastOf 35 = .ok (.if_icmp .ge 14, 3) := by decide +kernel
theorem dX6_lastOf_38 : decode cX6_lastOf 38 = .ok (.aload_n 0, 1) := by decide +kernel
theorem dX6_lastOf_39 : decode cX6_lastOf 39 = .ok (.getfield 42, 3) := by decide +kernel
theorem dX6_lastOf_42 : decode cX6_lastOf 42 = .ok (.iload_n 1, 1) := by decide +kernel
theorem dX6_lastOf_43 : decode cX6_lastOf 43 = .ok (.iconst 5, 1) := by decide +kernel
theorem dX6_lastOf_44 : decode cX6_lastOf 44 = .ok (.isub, 1) := by decide +kernel
theorem dX6_lastOf_45 : decode cX6_lastOf 45 = .ok (.iaload, 1) := by decide +kernel
theorem dX6_lastOf_46 : decode cX6_lastOf 46 = .ok (.goto 31, 3) := by decide +kernel
theorem dX6_lastOf_49 : decode cX6_lastOf 49 = .ok (.iload_n 1, 1) := by decide +kernel
theorem dX6_lastOf_50 : decode cX6_lastOf 50 = .ok (.bipush 7, 2) := by decide +kernel
theorem dX6_lastOf_52 : decode cX6_lastOf 52 = .ok (.if_icmp .ne 24, 3) := by decide +kernel
theorem dX6_lastOf_55 : decode cX6_lastOf 55 = .ok (.aload_n 0, 1) := by decide +kernel
theorem dX6_lastOf_56 : decode cX6_lastOf 56 = .ok (.getfield 117, 3) := by decide +kernel
theorem dX6_lastOf_59 : decode cX6_lastOf 59 = .ok (.ifCond .le 17, 3) := by decide +kernel
theorem dX6_lastOf_62 : decode cX6_lastOf 62 = .ok (.aload_n 0, 1) := by decide +kernel
theorem dX6_lastOf_63 : decode cX6_lastOf 63 = .ok (.getfield 48, 3) := by decide +kernel
theorem dX6_lastOf_66 : decode cX6_lastOf 66 = .ok (.aload_n 0, 1) := by decide +kernel
theorem dX6_lastOf_67 : decode cX6_lastOf 67 = .ok (.getfield 117, 3) := by decide +kernel
theorem dX6_lastOf_70 : decode cX6_lastOf 70 = .ok (.iconst 1, 1) := by decide +kernel
theorem dX6_lastOf_71 : decode cX6_lastOf 71 = .ok (.isub, 1) := by decide +kernel
theorem dX6_lastOf_72 : decode cX6_lastOf 72 = .ok (.iaload, 1) := by decide +kernel
theorem dX6_lastOf_73 : decode cX6_lastOf 73 = .ok (.goto 4, 3) := by decide +kernel
theorem dX6_lastOf_76 : decode cX6_lastOf 76 = .ok (.iconst (-1), 1) := by decide +kernel
theorem dX6_lastOf_77 : decode cX6_lastOf 77 = .ok (.ireturn, 1) := by decide +kernel
theorem dX6_comesTo_0 : decode cX6_comesTo 0 = .ok (.iload_n 2, 1) := by decide +kernel
theorem dX6_comesTo_1 : decode cX6_comesTo 1 = .ok (.aload_n 0, 1) := by decide +kernel
theorem dX6_comesTo_2 : decode cX6_comesTo 2 = .ok (.getfield 25, 3) := by decide +kernel
theorem dX6_comesTo_5 : decode cX6_comesTo 5 = .ok (.iconst 2, 1) := by decide +kernel
theorem dX6_comesTo_6 : decode cX6_comesTo 6 = .ok (.iaload, 1) := by decide +kernel
theorem dX6_comesTo_7 : decode cX6_comesTo 7 = .ok (.if_icmp .lt 5, 3) := by decide +kernel
theorem dX6_comesTo_10 : decode cX6_comesTo 10 = .ok (.iconst 0, 1) := by decide +kernel
theorem dX6_comesTo_11 : decode cX6_comesTo 11 = .ok (.ireturn, 1) := by decide +kernel
theorem dX6_comesTo_12 : decode cX6_comesTo 12 = .ok (.aload_n 0, 1) := by decide +kernel
theorem dX6_comesTo_13 : decode cX6_comesTo 13 = .ok (.getfield 36, 3) := by decide +kernel
theorem dX6_comesTo_16 : decode cX6_comesTo 16 = .ok (.iload_n 2, 1) := by decide +kernel
theorem dX6_comesTo_17 : decode cX6_comesTo 17 = .ok (.iaload, 1) := by decide +kernel
theorem dX6_comesTo_18 : decode cX6_comesTo 18 = .ok (.ifCond .le 22, 3) := by decide +kernel
theorem dX6_comesTo_21 : decode cX6_comesTo 21 = .ok (.aload_n 0, 1) := by decide +kernel
theorem dX6_comesTo_22 : decode cX6_comesTo 22 = .ok (.iload_n 1, 1) := by decide +kernel
theorem dX6_comesTo_23 : decode cX6_comesTo 23 = .ok (.aload_n 0, 1) := by decide +kernel
theorem dX6_comesTo_24 : decode cX6_comesTo 24 = .ok (.iload_n 2, 1) := by decide +kernel
theorem dX6_comesTo_25 : decode cX6_comesTo 25 = .ok (.aload_n 0, 1) := by decide +kernel
theorem dX6_comesTo_26 : decode cX6_comesTo 26 = .ok (.getfield 36, 3) := by decide +kernel
theorem dX6_comesTo_29 : decode cX6_comesTo 29 = .ok (.iload_n 2, 1) := by decide +kernel
theorem dX6_comesTo_30 : decode cX6_comesTo 30 = .ok (.iaload, 1) := by decide +kernel
theorem dX6_comesTo_31 : decode cX6_comesTo 31 = .ok (.iconst 1, 1) := by decide +kernel
theorem dX6_comesTo_32 : decode cX6_comesTo 32 = .ok (.isub, 1) := by decide +kernel
theorem dX6_comesTo_33 : decode cX6_comesTo 33 = .ok (.invokevirtual 159, 3) := by decide +kernel
theorem dX6_comesTo_36 : decode cX6_comesTo 36 = .ok (.invokevirtual 180, 3) := by decide +kernel
theorem dX6_comesTo_39 : decode cX6_comesTo 39 = .ok (.ireturn, 1) := by decide +kernel
theorem dX6_comesTo_40 : decode cX6_comesTo 40 = .ok (.aload_n 0, 1) := by decide +kernel
theorem dX6_comesTo_41 : decode cX6_comesTo 41 = .ok (.getfield 25, 3) := by decide +kernel
theorem dX6_comesTo_44 : decode cX6_comesTo 44 = .ok (.iconst 5, 1) := by decide +kernel
theorem dX6_comesTo_45 : decode cX6_comesTo 45 = .ok (.iaload, 1) := by decide +kernel
theorem dX6_comesTo_46 : decode cX6_comesTo 46 = .ok (.ifCond .eq 27, 3) := by decide +kernel
theorem dX6_comesTo_49 : decode cX6_comesTo 49 = .ok (.aload_n 0, 1) := by decide +kernel
theorem dX6_comesTo_50 : decode cX6_comesTo 50 = .ok (.getfield 25, 3) := by decide +kernel
theorem dX6_comesTo_53 : decode cX6_comesTo 53 = .ok (.iconst 5, 1) := by decide +kernel
theorem dX6_comesTo_54 : decode cX6_comesTo 54 = .ok (.iaload, 1) := by decide +kernel
theorem dX6_comesTo_55 : decode cX6_comesTo 55 = .ok (.iconst 1, 1) := by decide +kernel
theorem dX6_comesTo_56 : decode cX6_comesTo 56 = .ok (.if_icmp .ne 21, 3) := by decide +kernel
theorem dX6_comesTo_59 : decode cX6_comesTo 59 = .ok (.aload_n 0, 1) := by decide +kernel
theorem dX6_comesTo_60 : decode cX6_comesTo 60 = .ok (.iload_n 1, 1) := by decide +kernel
theorem dX6_comesTo_61 : decode cX6_comesTo 61 = .ok (.invokevirtual 177, 3) := by decide +kernel
theorem dX6_comesTo_64 : decode cX6_comesTo 64 = .ok (.aload_n 0, 1) := by decide +kernel
theorem dX6_comesTo_65 : decode cX6_comesTo 65 = .ok (.getfield 25, 3) := by decide +kernel
theorem dX6_comesTo_68 : decode cX6_comesTo 68 = .ok (.iconst 1, 1) := by decide +kernel
theorem dX6_comesTo_69 : decode cX6_comesTo 69 = .ok (.iaload, 1) := by decide +kernel
theorem dX6_comesTo_70 : decode cX6_comesTo 70 = .ok (.if_icmp .ne 7, 3) := by decide +kernel
theorem dX6_comesTo_73 : decode cX6_comesTo 73 = .ok (.iconst 1, 1) := by decide +kernel
theorem dX6_comesTo_74 : decode cX6_comesTo 74 = .ok (.goto 4, 3) := by decide +kernel
theorem dX6_comesTo_77 : decode cX6_comesTo 77 = .ok (.iconst 0, 1) := by decide +kernel
theorem dX6_comesTo_78 : decode cX6_comesTo 78 = .ok (.ireturn, 1) := by decide +kernel
theorem dX6_isRow_0 : decode cX6_isRow 0 = .ok (.aload_n 0, 1) := by decide +kernel
theorem dX6_isRow_1 : decode cX6_isRow 1 = .ok (.getfield 36, 3) := by decide +kernel
theorem dX6_isRow_4 : decode cX6_isRow 4 = .ok (.iload_n 1, 1) := by decide +kernel
theorem dX6_isRow_5 : decode cX6_isRow 5 = .ok (.iaload, 1) := by decide +kernel
theorem dX6_isRow_6 : decode cX6_isRow 6 = .ok (.iload_n 3, 1) := by decide +kernel
theorem dX6_isRow_7 : decode cX6_isRow 7 = .ok (.isub, 1) := by decide +kernel
theorem dX6_isRow_8 : decode cX6_isRow 8 = .ok (.istore 4, 2) := by decide +kernel
theorem dX6_isRow_10 : decode cX6_isRow 10 = .ok (.iload 4, 2) := by decide +kernel
theorem dX6_isRow_12 : decode cX6_isRow 12 = .ok (.aload_n 0, 1) := by decide +kernel
theorem dX6_isRow_13 : decode cX6_isRow 13 = .ok (.getfield 39, 3) := by decide +kernel
theorem dX6_isRow_16 : decode cX6_isRow 16 = .ok (.iload_n 1, 1) := by decide +kernel
theorem dX6_isRow_17 : decode cX6_isRow 17 = .ok (.iaload, 1) := by decide +kernel
theorem dX6_isRow_18 : decode cX6_isRow 18 = .ok (.if_icmp .lt 12, 3) := by decide +kernel
theorem dX6_isRow_21 : decode cX6_isRow 21 = .ok (.iload 4, 2) := by decide +kernel
theorem dX6_isRow_23 : decode cX6_isRow 23 = .ok (.ifCond .lt 7, 3) := by decide +kernel
theorem dX6_isRow_26 : decode cX6_isRow 26 = .ok (.iconst 1, 1) := by decide +kernel
theorem dX6_isRow_27 : decode cX6_isRow 27 = .ok (.goto 4, 3) := by decide +kernel
theorem dX6_isRow_30 : decode cX6_isRow 30 = .ok (.iconst 0, 1) := by decide +kernel
theorem dX6_isRow_31 : decode cX6_isRow 31 = .ok (.istore 5, 2) := by decide +kernel
theorem dX6_isRow_33 : decode cX6_isRow 33 = .ok (.iload 4, 2) := by decide +kernel
theorem dX6_isRow_35 : decode cX6_isRow 35 = .ok (.istore 6, 2) := by decide +kernel
theorem dX6_isRow_37 : decode cX6_isRow 37 = .ok (.iload 6, 2) := by decide +kernel
theorem dX6_isRow_39 : decode cX6_isRow 39 = .ok (.iconst 1, 1) := by decide +kernel
theorem dX6_isRow_40 : decode cX6_isRow 40 = .ok (.iadd, 1) := by decide +kernel
theorem dX6_isRow_41 : decode cX6_isRow 41 = .ok (.aload_n 0, 1) := by decide +kernel
theorem dX6_isRow_42 : decode cX6_isRow 42 = .ok (.getfield 36, 3) := by decide +kernel
theorem dX6_isRow_45 : decode cX6_isRow 45 = .ok (.iload_n 1, 1) := by decide +kernel
theorem dX6_isRow_46 : decode cX6_isRow 46 = .ok (.iaload, 1) := by decide +kernel
theorem dX6_isRow_47 : decode cX6_isRow 47 = .ok (.if_icmp .ge 36, 3) := by decide +kernel
theorem dX6_isRow_50 : decode cX6_isRow 50 = .ok (.iload 5, 2) := by decide +kernel
theorem dX6_isRow_52 : decode cX6_isRow 52 = .ok (.ifCond .eq 31, 3) := by decide +kernel
theorem dX6_isRow_55 : decode cX6_isRow 55 = .ok (.aload_n 0, 1) := by decide +kernel
theorem dX6_isRow_56 : decode cX6_isRow 56 = .ok (.aload_n 0, 1) := by decide +kernel
theorem dX6_isRow_57 : decode cX6_isRow 57 = .ok (.iload_n 1, 1) := by decide +kernel
theorem dX6_isRow_58 : decode cX6_isRow 58 = .ok (.iload 6, 2) := by decide +kernel
theorem dX6_isRow_60 : decode cX6_isRow 60 = .ok (.iconst 1, 1) := by decide +kernel
theorem dX6_isRow_61 : decode cX6_isRow 61 = .ok (.iadd, 1) := by decide +kernel
theorem dX6_isRow_62 : decode cX6_isRow 62 = .ok (.invokevirtual 159, 3) := by decide +kernel
theorem dX6_isRow_65 : decode cX6_isRow 65 = .ok (.aload_n 0, 1) := by decide +kernel
theorem dX6_isRow_66 : decode cX6_isRow 66 = .ok (.iload_n 1, 1) := by decide +kernel
theorem dX6_isRow_67 : decode cX6_isRow 67 = .ok (.iload 6, 2) := by decide +kernel
theorem dX6_isRow_69 : decode cX6_isRow 69 = .ok (.invokevirtual 159, 3) := by decide +kernel
theorem dX6_isRow_72 : decode cX6_isRow 72 = .ok (.invokevirtual 180, 3) := by decide +kernel
theorem dX6_isRow_75 : decode cX6_isRow 75 = .ok (.istore 5, 2) := by decide +kernel
theorem dX6_isRow_77 : decode cX6_isRow 77 = .ok (.iinc 6 1, 3) := by decide +kernel
theorem dX6_isRow_80 : decode cX6_isRow 80 = .ok (.goto (-43), 3) := by decide +kernel
theorem dX6_isRow_83 : decode cX6_isRow 83 = .ok (.iconst 1, 1) := by decide +kernel
theorem dX6_isRow_84 : decode cX6_isRow 84 = .ok (.istore 6, 2) := by decide +kernel
theorem dX6_isRow_86 : decode cX6_isRow 86 = .ok (.iconst 0, 1) := by decide +kernel
theorem dX6_isRow_87 : decode cX6_isRow 87 = .ok (.istore 7, 2) := by decide +kernel
theorem dX6_isRow_89 : decode cX6_isRow 89 = .ok (.iload 7, 2) := by decide +kernel
theorem dX6_isRow_91 : decode cX6_isRow 91 = .ok (.aload_n 0, 1) := by decide +kernel
theorem dX6_isRow_92 : decode cX6_isRow 92 = .ok (.getfield 25, 3) := by decide +kernel
theorem dX6_isRow_95 : decode cX6_isRow 95 = .ok (.iconst 3, 1) := by decide +kernel
theorem dX6_isRow_96 : decode cX6_isRow 96 = .ok (.iaload, 1) := by decide +kernel
theorem dX6_isRow_97 : decode cX6_isRow 97 = .ok (.if_icmp .ge 30, 3) := by decide +kernel
theorem dX6_isRow_100 : decode cX6_isRow 100 = .ok (.iload 6, 2) := by decide +kernel
theorem dX6_isRow_102 : decode cX6_isRow 102 = .ok (.aload_n 0, 1) := by decide +kernel
theorem dX6_isRow_103 : decode cX6_isRow 103 = .ok (.getfield 42, 3) := by decide +kernel
theorem dX6_isRow_106 : decode cX6_isRow 106 = .ok (.iload 7, 2) := by decide +kernel
theorem dX6_isRow_108 : decode cX6_isRow 108 = .ok (.iaload, 1) := by decide +kernel
theorem dX6_isRow_109 : decode cX6_isRow 109 = .ok (.iconst (-1), 1) := by decide +kernel
theorem dX6_isRow_110 : decode cX6_isRow 110 = .ok (.if_icmp .ne 7, 3) := by decide +kernel
theorem dX6_isRow_113 : decode cX6_isRow 113 = .ok (.iconst 1, 1) := by decide +kernel
theorem dX6_isRow_114 : decode cX6_isRow 114 = .ok (.goto 4, 3) := by decide +kernel
theorem dX6_isRow_117 : decode cX6_isRow 117 = .ok (.iconst 0, 1) := by decide +kernel
theorem dX6_isRow_118 : decode cX6_isRow 118 = .ok (.iadd, 1) := by decide +kernel
theorem dX6_isRow_119 : decode cX6_isRow 119 = .ok (.istore 6, 2) := by decide +kernel
theorem dX6_isRow_121 : decode cX6_isRow 121 = .ok (.iinc 7 1, 3) := by decide +kernel
theorem dX6_isRow_124 : decode cX6_isRow 124 = .ok (.goto (-35), 3) := by decide +kernel
theorem dX6_isRow_127 : decode cX6_isRow 127 = .ok (.iconst 0, 1) := by decide +kernel
theorem dX6_isRow_128 : decode cX6_isRow 128 = .ok (.istore 7, 2) := by decide +kernel
theorem dX6_isRow_130 : decode cX6_isRow 130 = .ok (.iload 7, 2) := by decide +kernel
theorem dX6_isRow_132 : decode cX6_isRow 132 = .ok (.aload_n 0, 1) := by decide +kernel
theorem dX6_isRow_133 : decode cX6_isRow 133 = .ok (.getfield 25, 3) := by decide +kernel
theorem dX6_isRow_136 : decode cX6_isRow 136 = .ok (.iconst 2, 1) := by decide +kernel
theorem dX6_isRow_137 : decode cX6_isRow 137 = .ok (.iaload, 1) := by decide +kernel
theorem dX6_isRow_138 : decode cX6_isRow 138 = .ok (.if_icmp .ge 35, 3) := by decide +kernel
theorem dX6_isRow_141 : decode cX6_isRow 141 = .ok (.iload 6, 2) := by decide +kernel
theorem dX6_isRow_143 : decode cX6_isRow 143 = .ok (.aload_n 0, 1) := by decide +kernel
theorem dX6_isRow_144 : decode cX6_isRow 144 = .ok (.getfield 36, 3) := by decide +kernel
theorem dX6_isRow_147 : decode cX6_isRow 147 = .ok (.iload 7, 2) := by decide +kernel
theorem dX6_isRow_149 : decode cX6_isRow 149 = .ok (.iaload, 1) := by decide +kernel
theorem dX6_isRow_150 : decode cX6_isRow 150 = .ok (.ifCond .ne 13, 3) := by decide +kernel
theorem dX6_isRow_153 : decode cX6_isRow 153 = .ok (.iload 7, 2) := by decide +kernel
theorem dX6_isRow_155 : decode cX6_isRow 155 = .ok (.iload_n 2, 1) := by decide +kernel
theorem dX6_isRow_156 : decode cX6_isRow 156 = .ok (.if_icmp .eq 7, 3) := by decide +kernel
theorem dX6_isRow_159 : decode cX6_isRow 159 = .ok (.iconst 2, 1) := by decide +kernel
theorem dX6_isRow_160 : decode cX6_isRow 160 = .ok (.goto 4, 3) := by decide +kernel
theorem dX6_isRow_163 : decode cX6_isRow 163 = .ok (.iconst 1, 1) := by decide +kernel
theorem dX6_isRow_164 : decode cX6_isRow 164 = .ok (.imul, 1) := by decide +kernel
theorem dX6_isRow_165 : decode cX6_isRow 165 = .ok (.istore 6, 2) := by decide +kernel
theorem dX6_isRow_167 : decode cX6_isRow 167 = .ok (.iinc 7 1, 3) := by decide +kernel
theorem dX6_isRow_170 : decode cX6_isRow 170 = .ok (.goto (-40), 3) := by decide +kernel
theorem dX6_isRow_173 : decode cX6_isRow 173 = .ok (.iload 5, 2) := by decide +kernel
theorem dX6_isRow_175 : decode cX6_isRow 175 = .ok (.ifCond .eq 28, 3) := by decide +kernel
theorem dX6_isRow_178 : decode cX6_isRow 178 = .ok (.iload_n 3, 1) := by decide +kernel
theorem dX6_isRow_179 : decode cX6_isRow 179 = .ok (.iload 6, 2) := by decide +kernel
theorem dX6_isRow_181 : decode cX6_isRow 181 = .ok (.if_icmp .gt 22, 3) := by decide +kernel
theorem dX6_isRow_184 : decode cX6_isRow 184 = .ok (.aload_n 0, 1) := by decide +kernel
theorem dX6_isRow_185 : decode cX6_isRow 185 = .ok (.aload_n 0, 1) := by decide +kernel
theorem dX6_isRow_186 : decode cX6_isRow 186 = .ok (.iload_n 1, 1) := by decide +kernel
theorem dX6_isRow_187 : decode cX6_isRow 187 = .ok (.iload 4, 2) := by decide +kernel
theorem dX6_isRow_189 : decode cX6_isRow 189 = .ok (.invokevirtual 159, 3) := by decide +kernel
theorem dX6_isRow_192 : decode cX6_isRow 192 = .ok (.iload_n 2, 1) := by decide +kernel
theorem dX6_isRow_193 : decode cX6_isRow 193 = .ok (.invokevirtual 184, 3) := by decide +kernel
theorem dX6_isRow_196 : decode cX6_isRow 196 = .ok (.ifCond .eq 7, 3) := by decide +kernel
theorem dX6_isRow_199 : decode cX6_isRow 199 = .ok (.iconst 1, 1) := by decide +kernel
theorem dX6_isRow_200 : decode cX6_isRow 200 = .ok (.goto 4, 3) := by decide +kernel
theorem dX6_isRow_203 : decode cX6_isRow 203 = .ok (.iconst 0, 1) := by decide +kernel
theorem dX6_isRow_204 : decode cX6_isRow 204 = .ok (.ireturn, 1) := by decide +kernel
theorem dX6_isMove_0 : decode cX6_isMove 0 = .ok (.iload_n 1, 1) := by decide +kernel
theorem dX6_isMove_1 : decode cX6_isMove 1 = .ok (.bipush 9, 2) := by decide +kernel
theorem dX6_isMove_3 : decode cX6_isMove 3 = .ok (.if_icmp .ne 48, 3) := by decide +kernel
theorem dX6_isMove_6 : decode cX6_isMove 6 = .ok (.iload_n 2, 1) := by decide +kernel
theorem dX6_isMove_7 : decode cX6_isMove 7 = .ok (.bipush 7, 2) := by decide +kernel
theorem dX6_isMove_9 : decode cX6_isMove 9 = .ok (.if_icmp .ne 40, 3) := by decide +kernel
theorem dX6_isMove_12 : decode cX6_isMove 12 = .ok (.iload_n 3, 1) := by decide +kernel
theorem dX6_isMove_13 : decode cX6_isMove 13 = .ok (.iconst 1, 1) := by decide +kernel
theorem dX6_isMove_14 : decode cX6_isMove 14 = .ok (.if_icmp .ne 35, 3) := by decide +kernel
theorem dX6_isMove_17 : decode cX6_isMove 17 = .ok (.aload_n 0, 1) := by decide +kernel
theorem dX6_isMove_18 : decode cX6_isMove 18 = .ok (.getfield 120, 3) := by decide +kernel
theorem dX6_isMove_21 : decode cX6_isMove 21 = .ok (.ifCond .gt 24, 3) := by decide +kernel
theorem dX6_isMove_24 : decode cX6_isMove 24 = .ok (.aload_n 0, 1) := by decide +kernel
theorem dX6_isMove_25 : decode cX6_isMove 25 = .ok (.getfield 117, 3) := by decide +kernel
theorem dX6_isMove_28 : decode cX6_isMove 28 = .ok (.ifCond .le 21, 3) := by decide +kernel
theorem dX6_isMove_31 : decode cX6_isMove 31 = .ok (.aload_n 0, 1) := by decide +kernel
theorem dX6_isMove_32 : decode cX6_isMove 32 = .ok (.getfield 123, 3) := by decide +kernel
theorem dX6_isMove_35 : decode cX6_isMove 35 = .ok (.aload_n 0, 1) := by decide +kernel
theorem dX6_isMove_36 : decode cX6_isMove 36 = .ok (.getfield 25, 3) := by decide +kernel
theorem dX6_isMove_39 : decode cX6_isMove 39 = .ok (.bipush 7, 2) := by decide +kernel
theorem dX6_isMove_41 : decode cX6_isMove 41 = .ok (.iaload, 1) := by decide +kernel
theorem dX6_isMove_42 : decode cX6_isMove 42 = .ok (.if_icmp .ge 7, 3) := by decide +kernel
theorem dX6_isMove_45 : decode cX6_isMove 45 = .ok (.iconst 1, 1) := by decide +kernel
theorem dX6_isMove_46 : decode cX6_isMove 46 = .ok (.goto 4, 3) := by decide +kernel
theorem dX6_isMove_49 : decode cX6_isMove 49 = .ok (.iconst 0, 1) := by decide +kernel
theorem dX6_isMove_50 : decode cX6_isMove 50 = .ok (.ireturn, 1) := by decide +kernel
theorem dX6_isMove_51 : decode cX6_isMove 51 = .ok (.iload_n 1, 1) := by decide +kernel
theorem dX6_isMove_52 : decode cX6_isMove 52 = .ok (.iconst 5, 1) := by decide +kernel
theorem dX6_isMove_53 : decode cX6_isMove 53 = .ok (.if_icmp .ge 29, 3) := by decide +kernel
theorem dX6_isMove_56 : decode cX6_isMove 56 = .ok (.iload_n 2, 1) := by decide +kernel
theorem dX6_isMove_57 : decode cX6_isMove 57 = .ok (.iconst 5, 1) := by decide +kernel
theorem dX6_isMove_58 : decode cX6_isMove 58 = .ok (.if_icmp .ge 24, 3) := by decide +kernel
theorem dX6_isMove_61 : decode cX6_isMove 61 = .ok (.iload_n 1, 1) := by decide +kernel
theorem dX6_isMove_62 : decode cX6_isMove 62 = .ok (.iload_n 2, 1) := by decide +kernel
theorem dX6_isMove_63 : decode cX6_isMove 63 = .ok (.if_icmp .eq 17, 3) := by decide +kernel
theorem dX6_isMove_66 : decode cX6_isMove 66 = .ok (.aload_n 0, 1) := by decide +kernel
theorem dX6_isMove_67 : decode cX6_isMove 67 = .ok (.iload_n 1, 1) := by decide +kernel
theorem dX6_isMove_68 : decode cX6_isMove 68 = .ok (.iload_n 2, 1) := by decide +kernel
theorem dX6_isMove_69 : decode cX6_isMove 69 = .ok (.iload_n 3, 1) := by decide +kernel
theorem dX6_isMove_70 : decode cX6_isMove 70 = .ok (.invokevirtual 187, 3) := by decide +kernel
theorem dX6_isMove_73 : decode cX6_isMove 73 = .ok (.ifCond .eq 7, 3) := by decide +kernel
theorem dX6_isMove_76 : decode cX6_isMove 76 = .ok (.iconst 1, 1) := by decide +kernel
theorem dX6_isMove_77 : decode cX6_isMove 77 = .ok (.goto 4, 3) := by decide +kernel
theorem dX6_isMove_80 : decode cX6_isMove 80 = .ok (.iconst 0, 1) := by decide +kernel
theorem dX6_isMove_81 : decode cX6_isMove 81 = .ok (.ireturn, 1) := by decide +kernel
theorem dX6_isMove_82 : decode cX6_isMove 82 = .ok (.aload_n 0, 1) := by decide +kernel
theorem dX6_isMove_83 : decode cX6_isMove 83 = .ok (.iload_n 1, 1) := by decide +kernel
theorem dX6_isMove_84 : decode cX6_isMove 84 = .ok (.invokevirtual 190, 3) := by decide +kernel
theorem dX6_isMove_87 : decode cX6_isMove 87 = .ok (.istore 4, 2) := by decide +kernel
theorem dX6_isMove_89 : decode cX6_isMove 89 = .ok (.iload_n 3, 1) := by decide +kernel
theorem dX6_isMove_90 : decode cX6_isMove 90 = .ok (.iconst 1, 1) := by decide +kernel
theorem dX6_isMove_91 : decode cX6_isMove 91 = .ok (.if_icmp .ne 9, 3) := by decide +kernel
theorem dX6_isMove_94 : decode cX6_isMove 94 = .ok (.iload 4, 2) := by decide +kernel
theorem dX6_isMove_96 : decode cX6_isMove 96 = .ok (.iconst (-1), 1) := by decide +kernel
theorem dX6_isMove_97 : decode cX6_isMove 97 = .ok (.if_icmp .ne 5, 3) := by decide +kernel
theorem dX6_isMove_100 : decode cX6_isMove 100 = .ok (.iconst 0, 1) := by decide +kernel
theorem dX6_isMove_101 : decode cX6_isMove 101 = .ok (.ireturn, 1) := by decide +kernel
theorem dX6_isMove_102 : decode cX6_isMove 102 = .ok (.iload_n 2, 1) := by decide +kernel
theorem dX6_isMove_103 : decode cX6_isMove 103 = .ok (.bipush 8, 2) := by decide +kernel
theorem dX6_isMove_105 : decode cX6_isMove 105 = .ok (.if_icmp .ne 31, 3) := by decide +kernel
theorem dX6_isMove_108 : decode cX6_isMove 108 = .ok (.aload_n 0, 1) := by decide +kernel
theorem dX6_isMove_109 : decode cX6_isMove 109 = .ok (.iload 4, 2) := by decide +kernel
theorem dX6_isMove_111 : decode cX6_isMove 111 = .ok (.invokevirtual 177, 3) := by decide +kernel
theorem dX6_isMove_114 : decode cX6_isMove 114 = .ok (.aload_n 0, 1) := by decide +kernel
theorem dX6_isMove_115 : decode cX6_isMove 115 = .ok (.getfield 45, 3) := by decide +kernel
theorem dX6_isMove_118 : decode cX6_isMove 118 = .ok (.aload_n 0, 1) := by decide +kernel
theorem dX6_isMove_119 : decode cX6_isMove 119 = .ok (.iload 4, 2) := by decide +kernel
theorem dX6_isMove_121 : decode cX6_isMove 121 = .ok (.invokevirtual 173, 3) := by decide +kernel
theorem dX6_isMove_124 : decode cX6_isMove 124 = .ok (.iaload, 1) := by decide +kernel
theorem dX6_isMove_125 : decode cX6_isMove 125 = .ok (.iconst 1, 1) := by decide +kernel
theorem dX6_isMove_126 : decode cX6_isMove 126 = .ok (.iadd, 1) := by decide +kernel
theorem dX6_isMove_127 : decode cX6_isMove 127 = .ok (.if_icmp .ne 7, 3) := by decide +kernel
theorem dX6_isMove_130 : decode cX6_isMove 130 = .ok (.iconst 1, 1) := by decide +kernel
theorem dX6_isMove_131 : decode cX6_isMove 131 = .ok (.goto 4, 3) := by decide +kernel
theorem dX6_isMove_134 : decode cX6_isMove 134 = .ok (.iconst 0, 1) := by decide +kernel
theorem dX6_isMove_135 : decode cX6_isMove 135 = .ok (.ireturn, 1) := by decide +kernel
theorem dX6_isMove_136 : decode cX6_isMove 136 = .ok (.iload_n 2, 1) := by decide +kernel
theorem dX6_isMove_137 : decode cX6_isMove 137 = .ok (.iconst 5, 1) := by decide +kernel
theorem dX6_isMove_138 : decode cX6_isMove 138 = .ok (.bipush 6, 2) := by decide +kernel
theorem dX6_isMove_140 : decode cX6_isMove 140 = .ok (.invokestatic 99, 3) := by decide +kernel
theorem dX6_isMove_143 : decode cX6_isMove 143 = .ok (.ifCond .eq 44, 3) := by decide +kernel
theorem dX6_isMove_146 : decode cX6_isMove 146 = .ok (.iload_n 1, 1) := by decide +kernel
theorem dX6_isMove_147 : decode cX6_isMove 147 = .ok (.iconst 5, 1) := by decide +kernel
theorem dX6_isMove_148 : decode cX6_isMove 148 = .ok (.if_icmp .lt 9, 3) := by decide +kernel
theorem dX6_isMove_151 : decode cX6_isMove 151 = .ok (.iload_n 1, 1) := by decide +kernel
theorem dX6_isMove_152 : decode cX6_isMove 152 = .ok (.bipush 7, 2) := by decide +kernel
theorem dX6_isMove_154 : decode cX6_isMove 154 = .ok (.if_icmp .ne 31, 3) := by decide +kernel
theorem dX6_isMove_157 : decode cX6_isMove 157 = .ok (.iload_n 2, 1) := by decide +kernel
theorem dX6_isMove_158 : decode cX6_isMove 158 = .ok (.iconst 5, 1) := by decide +kernel
theorem dX6_isMove_159 : decode cX6_isMove 159 = .ok (.isub, 1) := by decide +kernel
theorem dX6_isMove_160 : decode cX6_isMove 160 = .ok (.aload_n 0, 1) := by decide +kernel
theorem dX6_isMove_161 : decode cX6_isMove 161 = .ok (.getfield 25, 3) := by decide +kernel
theorem dX6_isMove_164 : decode cX6_isMove 164 = .ok (.iconst 3, 1) := by decide +kernel
theorem dX6_isMove_165 : decode cX6_isMove 165 = .ok (.iaload, 1) := by decide +kernel
theorem dX6_isMove_166 : decode cX6_isMove 166 = .ok (.if_icmp .ge 19, 3) := by decide +kernel
theorem dX6_isMove_169 : decode cX6_isMove 169 = .ok (.aload_n 0, 1) := by decide +kernel
theorem dX6_isMove_170 : decode cX6_isMove 170 = .ok (.getfield 42, 3) := by decide +kernel
theorem dX6_isMove_173 : decode cX6_isMove 173 = .ok (.iload_n 2, 1) := by decide +kernel
theorem dX6_isMove_174 : decode cX6_isMove 174 = .ok (.iconst 5, 1) := by decide +kernel
theorem dX6_isMove_175 : decode cX6_isMove 175 = .ok (.isub, 1) := by decide +kernel
theorem dX6_isMove_176 : decode cX6_isMove 176 = .ok (.iaload, 1) := by decide +kernel
theorem dX6_isMove_177 : decode cX6_isMove 177 = .ok (.iconst (-1), 1) := by decide +kernel
theorem dX6_isMove_178 : decode cX6_isMove 178 = .ok (.if_icmp .ne 7, 3) := by decide +kernel
theorem dX6_isMove_181 : decode cX6_isMove 181 = .ok (.iconst 1, 1) := by decide +kernel
theorem dX6_isMove_182 : decode cX6_isMove 182 = .ok (.goto 4, 3) := by decide +kernel
theorem dX6_isMove_185 : decode cX6_isMove 185 = .ok (.iconst 0, 1) := by decide +kernel
theorem dX6_isMove_186 : decode cX6_isMove 186 = .ok (.ireturn, 1) := by decide +kernel
theorem dX6_isMove_187 : decode cX6_isMove 187 = .ok (.iload_n 2, 1) := by decide +kernel
theorem dX6_isMove_188 : decode cX6_isMove 188 = .ok (.iconst 5, 1) := by decide +kernel
theorem dX6_isMove_189 : decode cX6_isMove 189 = .ok (.if_icmp .ge 17, 3) := by decide +kernel
theorem dX6_isMove_192 : decode cX6_isMove 192 = .ok (.aload_n 0, 1) := by decide +kernel
theorem dX6_isMove_193 : decode cX6_isMove 193 = .ok (.iload 4, 2) := by decide +kernel
theorem dX6_isMove_195 : decode cX6_isMove 195 = .ok (.iload_n 2, 1) := by decide +kernel
theorem dX6_isMove_196 : decode cX6_isMove 196 = .ok (.invokevirtual 184, 3) := by decide +kernel
theorem dX6_isMove_199 : decode cX6_isMove 199 = .ok (.ifCond .eq 7, 3) := by decide +kernel
theorem dX6_isMove_202 : decode cX6_isMove 202 = .ok (.iconst 1, 1) := by decide +kernel
theorem dX6_isMove_203 : decode cX6_isMove 203 = .ok (.goto 4, 3) := by decide +kernel
theorem dX6_isMove_206 : decode cX6_isMove 206 = .ok (.iconst 0, 1) := by decide +kernel
theorem dX6_isMove_207 : decode cX6_isMove 207 = .ok (.ireturn, 1) := by decide +kernel
theorem dX6_turnStock_0 : decode cX6_turnStock 0 = .ok (.aload_n 0, 1) := by decide +kernel
theorem dX6_turnStock_1 : decode cX6_turnStock 1 = .ok (.getfield 120, 3) := by decide +kernel
theorem dX6_turnStock_4 : decode cX6_turnStock 4 = .ok (.ifCond .le 44, 3) := by decide +kernel
theorem dX6_turnStock_7 : decode cX6_turnStock 7 = .ok (.aload_n 0, 1) := by decide +kernel
theorem dX6_turnStock_8 : decode cX6_turnStock 8 = .ok (.dup, 1) := by decide +kernel
theorem dX6_turnStock_9 : decode cX6_turnStock 9 = .ok (.getfield 120, 3) := by decide +kernel
theorem dX6_turnStock_12 : decode cX6_turnStock 12 = .ok (.iconst 1, 1) := by decide +kernel
theorem dX6_turnStock_13 : decode cX6_turnStock 13 = .ok (.isub, 1) := by decide +kernel
theorem dX6_turnStock_14 : decode cX6_turnStock 14 = .ok (.putfield 120, 3) := by decide +kernel
theorem dX6_turnStock_17 : decode cX6_turnStock 17 = .ok (.aload_n 0, 1) := by decide +kernel
theorem dX6_turnStock_18 : decode cX6_turnStock 18 = .ok (.getfield 48, 3) := by decide +kernel
theorem dX6_turnStock_21 : decode cX6_turnStock 21 = .ok (.aload_n 0, 1) := by decide +kernel
theorem dX6_turnStock_22 : decode cX6_turnStock 22 = .ok (.getfield 117, 3) := by decide +kernel
theorem dX6_turnStock_25 : decode cX6_turnStock 25 = .ok (.aload_n 0, 1) := by decide +kernel
theorem dX6_turnStock_26 : decode cX6_turnStock 26 = .ok (.getfield 51, 3) := by decide +kernel
theorem dX6_turnStock_29 : decode cX6_turnStock 29 = .ok (.aload_n 0, 1) := by decide +kernel
theorem dX6_turnStock_30 : decode cX6_turnStock 30 = .ok (.getfield 120, 3) := by decide +kernel
theorem dX6_turnStock_33 : decode cX6_turnStock 33 = .ok (.iaload, 1) := by decide +kernel
theorem dX6_turnStock_34 : decode cX6_turnStock 34 = .ok (.iastore, 1) := by decide +kernel
theorem dX6_turnStock_35 : decode cX6_turnStock 35 = .ok (.aload_n 0, 1) := by decide +kernel
theorem dX6_turnStock_36 : decode cX6_turnStock 36 = .ok (.dup, 1) := by decide +kernel
theorem dX6_turnStock_37 : decode cX6_turnStock 37 = .ok (.getfield 117, 3) := by decide +kernel
theorem dX6_turnStock_40 : decode cX6_turnStock 40 = .ok (.iconst 1, 1) := by decide +kernel
theorem dX6_turnStock_41 : decode cX6_turnStock 41 = .ok (.iadd, 1) := by decide +kernel
theorem dX6_turnStock_42 : decode cX6_turnStock 42 = .ok (.putfield 117, 3) := by decide +kernel
theorem dX6_turnStock_45 : decode cX6_turnStock 45 = .ok (.goto 61, 3) := by decide +kernel
theorem dX6_turnStock_48 : decode cX6_turnStock 48 = .ok (.iconst 0, 1) := by decide +kernel
theorem dX6_turnStock_49 : decode cX6_turnStock 49 = .ok (.istore_n 1, 1) := by decide +kernel
theorem dX6_turnStock_50 : decode cX6_turnStock 50 = .ok (.iload_n 1, 1) := by decide +kernel
theorem dX6_turnStock_51 : decode cX6_turnStock 51 = .ok (.aload_n 0, 1) := by decide +kernel
theorem dX6_turnStock_52 : decode cX6_turnStock 52 = .ok (.getfield 117, 3) := by decide +kernel
theorem dX6_turnStock_55 : decode cX6_turnStock 55 = .ok (.if_icmp .ge 28, 3) := by decide +kernel
theorem dX6_turnStock_58 : decode cX6_turnStock 58 = .ok (.aload_n 0, 1) := by decide +kernel
theorem dX6_turnStock_59 : decode cX6_turnStock 59 = .ok (.getfield 51, 3) := by decide +kernel
theorem dX6_turnStock_62 : decode cX6_turnStock 62 = .ok (.iload_n 1, 1) := by decide +kernel
theorem dX6_turnStock_63 : decode cX6_turnStock 63 = .ok (.aload_n 0, 1) := by decide +kernel
theorem dX6_turnStock_64 : decode cX6_turnStock 64 = .ok (.getfield 48, 3) := by decide +kernel
theorem dX6_turnStock_67 : decode cX6_turnStock 67 = .ok (.aload_n 0, 1) := by decide +kernel
theorem dX6_turnStock_68 : decode cX6_turnStock 68 = .ok (.getfield 117, 3) := by decide +kernel
theorem dX6_turnStock_71 : decode cX6_turnStock 71 = .ok (.iconst 1, 1) := by decide +kernel
theorem dX6_turnStock_72 : decode cX6_turnStock 72 = .ok (.isub, 1) := by decide +kernel
theorem dX6_turnStock_73 : decode cX6_turnStock 73 = .ok (.iload_n 1, 1) := by decide +kernel
theorem dX6_turnStock_74 : decode cX6_turnStock 74 = .ok (.isub, 1) := by decide +kernel
theorem dX6_turnStock_75 : decode cX6_turnStock 75 = .ok (.iaload, 1) := by decide +kernel
theorem dX6_turnStock_76 : decode cX6_turnStock 76 = .ok (.iastore, 1) := by decide +kernel
theorem dX6_turnStock_77 : decode cX6_turnStock 77 = .ok (.iinc 1 1, 3) := by decide +kernel
theorem dX6_turnStock_80 : decode cX6_turnStock 80 = .ok (.goto (-30), 3) := by decide +kernel
theorem dX6_turnStock_83 : decode cX6_turnStock 83 = .ok (.aload_n 0, 1) := by decide +kernel
theorem dX6_turnStock_84 : decode cX6_turnStock 84 = .ok (.aload_n 0, 1) := by decide +kernel
theorem dX6_turnStock_85 : decode cX6_turnStock 85 = .ok (.getfield 117, 3) := by decide +kernel
theorem dX6_turnStock_88 : decode cX6_turnStock 88 = .ok (.putfield 120, 3) := by decide +kernel
theorem dX6_turnStock_91 : decode cX6_turnStock 91 = .ok (.aload_n 0, 1) := by decide +kernel
theorem dX6_turnStock_92 : decode cX6_turnStock 92 = .ok (.iconst 0, 1) := by decide +kernel
theorem dX6_turnStock_93 : decode cX6_turnStock 93 = .ok (.putfield 117, 3) := by decide +kernel
theorem dX6_turnStock_96 : decode cX6_turnStock 96 = .ok (.aload_n 0, 1) := by decide +kernel
theorem dX6_turnStock_97 : decode cX6_turnStock 97 = .ok (.dup, 1) := by decide +kernel
theorem dX6_turnStock_98 : decode cX6_turnStock 98 = .ok (.getfield 123, 3) := by decide +kernel
theorem dX6_turnStock_101 : decode cX6_turnStock 101 = .ok (.iconst 1, 1) := by decide +kernel
theorem dX6_turnStock_102 : decode cX6_turnStock 102 = .ok (.iadd, 1) := by decide +kernel
theorem dX6_turnStock_103 : decode cX6_turnStock 103 = .ok (.putfield 123, 3) := by decide +kernel
theorem dX6_turnStock_106 : decode cX6_turnStock 106 = .ok (.return_, 1) := by decide +kernel
theorem dX6_take_0 : decode cX6_take 0 = .ok (.iload_n 1, 1) := by decide +kernel
theorem dX6_take_1 : decode cX6_take 1 = .ok (.iconst 5, 1) := by decide +kernel
theorem dX6_take_2 : decode cX6_take 2 = .ok (.if_icmp .ge 9, 3) := by decide +kernel
theorem dX6_take_5 : decode cX6_take 5 = .ok (.aload_n 0, 1) := by decide +kernel
theorem dX6_take_6 : decode cX6_take 6 = .ok (.iload_n 1, 1) := by decide +kernel
theorem dX6_take_7 : decode cX6_take 7 = .ok (.invokevirtual 193, 3) := by decide +kernel
theorem dX6_take_10 : decode cX6_take 10 = .ok (.ireturn, 1) := by decide +kernel
theorem dX6_take_11 : decode cX6_take 11 = .ok (.iload_n 1, 1) := by decide +kernel
theorem dX6_take_12 : decode cX6_take 12 = .ok (.bipush 7, 2) := by decide +kernel
theorem dX6_take_14 : decode cX6_take 14 = .ok (.if_icmp .ge 23, 3) := by decide +kernel
theorem dX6_take_17 : decode cX6_take 17 = .ok (.aload_n 0, 1) := by decide +kernel
theorem dX6_take_18 : decode cX6_take 18 = .ok (.getfield 42, 3) := by decide +kernel
theorem dX6_take_21 : decode cX6_take 21 = .ok (.iload_n 1, 1) := by decide +kernel
theorem dX6_take_22 : decode cX6_take 22 = .ok (.iconst 5, 1) := by decide +kernel
theorem dX6_take_23 : decode cX6_take 23 = .ok (.isub, 1) := by decide +kernel
theorem dX6_take_24 : decode cX6_take 24 = .ok (.iaload, 1) := by decide +kernel
theorem dX6_take_25 : decode cX6_take 25 = .ok (.istore_n 2, 1) := by decide +kernel
theorem dX6_take_26 : decode cX6_take 26 = .ok (.aload_n 0, 1) := by decide +kernel
theorem dX6_take_27 : decode cX6_take 27 = .ok (.getfield 42, 3) := by decide +kernel
theorem dX6_take_30 : decode cX6_take 30 = .ok (.iload_n 1, 1) := by decide +kernel
theorem dX6_take_31 : decode cX6_take 31 = .ok (.iconst 5, 1) := by decide +kernel
theorem dX6_take_32 : decode cX6_take 32 = .ok (.isub, 1) := by decide +kernel
theorem dX6_take_33 : decode cX6_take 33 = .ok (.iconst (-1), 1) := by decide +kernel
theorem dX6_take_34 : decode cX6_take 34 = .ok (.iastore, 1) := by decide +kernel
theorem dX6_take_35 : decode cX6_take 35 = .ok (.iload_n 2, 1) := by decide +kernel
theorem dX6_take_36 : decode cX6_take 36 = .ok (.ireturn, 1) := by decide +kernel
theorem dX6_take_37 : decode cX6_take 37 = .ok (.aload_n 0, 1) := by decide +kernel
theorem dX6_take_38 : decode cX6_take 38 = .ok (.dup, 1) := by decide +kernel
theorem dX6_take_39 : decode cX6_take 39 = .ok (.getfield 117, 3) := by decide +kernel
theorem dX6_take_42 : decode cX6_take 42 = .ok (.iconst 1, 1) := by decide +kernel
theorem dX6_take_43 : decode cX6_take 43 = .ok (.isub, 1) := by decide +kernel
theorem dX6_take_44 : decode cX6_take 44 = .ok (.putfield 117, 3) := by decide +kernel
theorem dX6_take_47 : decode cX6_take 47 = .ok (.aload_n 0, 1) := by decide +kernel
theorem dX6_take_48 : decode cX6_take 48 = .ok (.getfield 48, 3) := by decide +kernel
theorem dX6_take_51 : decode cX6_take 51 = .ok (.aload_n 0, 1) := by decide +kernel
theorem dX6_take_52 : decode cX6_take 52 = .ok (.getfield 117, 3) := by decide +kernel
theorem dX6_take_55 : decode cX6_take 55 = .ok (.iaload, 1) := by decide +kernel
theorem dX6_take_56 : decode cX6_take 56 = .ok (.ireturn, 1) := by decide +kernel
theorem dX6_play_0 : decode cX6_play 0 = .ok (.iload_n 1, 1) := by decide +kernel
theorem dX6_play_1 : decode cX6_play 1 = .ok (.bipush 9, 2) := by decide +kernel
theorem dX6_play_3 : decode cX6_play 3 = .ok (.if_icmp .ne 8, 3) := by decide +kernel
theorem dX6_play_6 : decode cX6_play 6 = .ok (.aload_n 0, 1) := by decide +kernel
theorem dX6_play_7 : decode cX6_play 7 = .ok (.invokevirtual 196, 3) := by decide +kernel
theorem dX6_play_10 : decode cX6_play 10 = .ok (.return_, 1) := by decide +kernel
theorem dX6_play_11 : decode cX6_play 11 = .ok (.iconst 0, 1) := by decide +kernel
theorem dX6_play_12 : decode cX6_play 12 = .ok (.istore 4, 2) := by decide +kernel
theorem dX6_play_14 : decode cX6_play 14 = .ok (.iload 4, 2) := by decide +kernel
theorem dX6_play_16 : decode cX6_play 16 = .ok (.iload_n 3, 1) := by decide +kernel
theorem dX6_play_17 : decode cX6_play 17 = .ok (.if_icmp .ge 21, 3) := by decide +kernel
theorem dX6_play_20 : decode cX6_play 20 = .ok (.aload_n 0, 1) := by decide +kernel
theorem dX6_play_21 : decode cX6_play 21 = .ok (.getfield 66, 3) := by decide +kernel
theorem dX6_play_24 : decode cX6_play 24 = .ok (.iload 4, 2) := by decide +kernel
theorem dX6_play_26 : decode cX6_play 26 = .ok (.aload_n 0, 1) := by decide +kernel
theorem dX6_play_27 : decode cX6_play 27 = .ok (.iload_n 1, 1) := by decide +kernel
theorem dX6_play_28 : decode cX6_play 28 = .ok (.invokevirtual 199, 3) := by decide +kernel
theorem dX6_play_31 : decode cX6_play 31 = .ok (.iastore, 1) := by decide +kernel
theorem dX6_play_32 : decode cX6_play 32 = .ok (.iinc 4 1, 3) := by decide +kernel
theorem dX6_play_35 : decode cX6_play 35 = .ok (.goto (-21), 3) := by decide +kernel
theorem dX6_play_38 : decode cX6_play 38 = .ok (.iload_n 3, 1) := by decide +kernel
theorem dX6_play_39 : decode cX6_play 39 = .ok (.iconst 1, 1) := by decide +kernel
theorem dX6_play_40 : decode cX6_play 40 = .ok (.isub, 1) := by decide +kernel
theorem dX6_play_41 : decode cX6_play 41 = .ok (.istore 4, 2) := by decide +kernel
theorem dX6_play_43 : decode cX6_play 43 = .ok (.iload 4, 2) := by decide +kernel
theorem dX6_play_45 : decode cX6_play 45 = .ok (.ifCond .lt 67, 3) := by decide +kernel
theorem dX6_play_48 : decode cX6_play 48 = .ok (.aload_n 0, 1) := by decide +kernel
theorem dX6_play_49 : decode cX6_play 49 = .ok (.getfield 66, 3) := by decide +kernel
theorem dX6_play_52 : decode cX6_play 52 = .ok (.iload 4, 2) := by decide +kernel
theorem dX6_play_54 : decode cX6_play 54 = .ok (.iaload, 1) := by decide +kernel
theorem dX6_play_55 : decode cX6_play 55 = .ok (.istore 5, 2) := by decide +kernel
theorem dX6_play_57 : decode cX6_play 57 = .ok (.iload_n 2, 1) := by decide +kernel
theorem dX6_play_58 : decode cX6_play 58 = .ok (.iconst 5, 1) := by decide +kernel
theorem dX6_play_59 : decode cX6_play 59 = .ok (.if_icmp .ge 13, 3) := by decide +kernel
theorem dX6_play_62 : decode cX6_play 62 = .ok (.aload_n 0, 1) := by decide +kernel
theorem dX6_play_63 : decode cX6_play 63 = .ok (.iload_n 2, 1) := by decide +kernel
theorem dX6_play_64 : decode cX6_play 64 = .ok (.iload 5, 2) := by decide +kernel
theorem dX6_play_66 : decode cX6_play 66 = .ok (.invokevirtual 137, 3) := by decide +kernel
theorem dX6_play_69 : decode cX6_play 69 = .ok (.goto 37, 3) := by decide +kernel
theorem dX6_play_72 : decode cX6_play 72 = .ok (.iload_n 2, 1) := by decide +kernel
theorem dX6_play_73 : decode cX6_play 73 = .ok (.bipush 8, 2) := by decide +kernel
theorem dX6_play_75 : decode cX6_play 75 = .ok (.if_icmp .ne 21, 3) := by decide +kernel
theorem dX6_play_78 : decode cX6_play 78 = .ok (.aload_n 0, 1) := by decide +kernel
theorem dX6_play_79 : decode cX6_play 79 = .ok (.getfield 45, 3) := by decide +kernel
theorem dX6_play_82 : decode cX6_play 82 = .ok (.aload_n 0, 1) := by decide +kernel
theorem dX6_play_83 : decode cX6_play 83 = .ok (.iload 5, 2) := by decide +kernel
theorem dX6_play_85 : decode cX6_play 85 = .ok (.invokevirtual 173, 3) := by decide +kernel
theorem dX6_play_88 : decode cX6_play 88 = .ok (.dup2, 1) := by decide +kernel
theorem dX6_play_89 : decode cX6_play 89 = .ok (.iaload, 1) := by decide +kernel
theorem dX6_play_90 : decode cX6_play 90 = .ok (.iconst 1, 1) := by decide +kernel
theorem dX6_play_91 : decode cX6_play 91 = .ok (.iadd, 1) := by decide +kernel
theorem dX6_play_92 : decode cX6_play 92 = .ok (.iastore, 1) := by decide +kernel
theorem dX6_play_93 : decode cX6_play 93 = .ok (.goto 13, 3) := by decide +kernel
theorem dX6_play_96 : decode cX6_play 96 = .ok (.aload_n 0, 1) := by decide +kernel
theorem dX6_play_97 : decode cX6_play 97 = .ok (.getfield 42, 3) := by decide +kernel
theorem dX6_play_100 : decode cX6_play 100 = .ok (.iload_n 2, 1) := by decide +kernel
theorem dX6_play_101 : decode cX6_play 101 = .ok (.iconst 5, 1) := by decide +kernel
theorem dX6_play_102 : decode cX6_play 102 = .ok (.isub, 1) := by decide +kernel
theorem dX6_play_103 : decode cX6_play 103 = .ok (.iload 5, 2) := by decide +kernel
theorem dX6_play_105 : decode cX6_play 105 = .ok (.iastore, 1) := by decide +kernel
theorem dX6_play_106 : decode cX6_play 106 = .ok (.iinc 4 (-1), 3) := by decide +kernel
theorem dX6_play_109 : decode cX6_play 109 = .ok (.goto (-66), 3) := by decide +kernel
theorem dX6_play_112 : decode cX6_play 112 = .ok (.return_, 1) := by decide +kernel
theorem dX6_atHome_0 : decode cX6_atHome 0 = .ok (.aload_n 0, 1) := by decide +kernel
theorem dX6_atHome_1 : decode cX6_atHome 1 = .ok (.getfield 45, 3) := by decide +kernel
theorem dX6_atHome_4 : decode cX6_atHome 4 = .ok (.iconst 0, 1) := by decide +kernel
theorem dX6_atHome_5 : decode cX6_atHome 5 = .ok (.iaload, 1) := by decide +kernel
theorem dX6_atHome_6 : decode cX6_atHome 6 = .ok (.aload_n 0, 1) := by decide +kernel
theorem dX6_atHome_7 : decode cX6_atHome 7 = .ok (.getfield 45, 3) := by decide +kernel
theorem dX6_atHome_10 : decode cX6_atHome 10 = .ok (.iconst 1, 1) := by decide +kernel
theorem dX6_atHome_11 : decode cX6_atHome 11 = .ok (.iaload, 1) := by decide +kernel
theorem dX6_atHome_12 : decode cX6_atHome 12 = .ok (.iadd, 1) := by decide +kernel
theorem dX6_atHome_13 : decode cX6_atHome 13 = .ok (.aload_n 0, 1) := by decide +kernel
theorem dX6_atHome_14 : decode cX6_atHome 14 = .ok (.getfield 45, 3) := by decide +kernel
theorem dX6_atHome_17 : decode cX6_atHome 17 = .ok (.iconst 2, 1) := by decide +kernel
theorem dX6_atHome_18 : decode cX6_atHome 18 = .ok (.iaload, 1) := by decide +kernel
theorem dX6_atHome_19 : decode cX6_atHome 19 = .ok (.iadd, 1) := by decide +kernel
theorem dX6_atHome_20 : decode cX6_atHome 20 = .ok (.aload_n 0, 1) := by decide +kernel
theorem dX6_atHome_21 : decode cX6_atHome 21 = .ok (.getfield 45, 3) := by decide +kernel
theorem dX6_atHome_24 : decode cX6_atHome 24 = .ok (.iconst 3, 1) := by decide +kernel
theorem dX6_atHome_25 : decode cX6_atHome 25 = .ok (.iaload, 1) := by decide +kernel
theorem dX6_atHome_26 : decode cX6_atHome 26 = .ok (.iadd, 1) := by decide +kernel
theorem dX6_atHome_27 : decode cX6_atHome 27 = .ok (.ireturn, 1) := by decide +kernel
theorem dX6_isWon_0 : decode cX6_isWon 0 = .ok (.aload_n 0, 1) := by decide +kernel
theorem dX6_isWon_1 : decode cX6_isWon 1 = .ok (.invokevirtual 202, 3) := by decide +kernel
theorem dX6_isWon_4 : decode cX6_isWon 4 = .ok (.aload_n 0, 1) := by decide +kernel
theorem dX6_isWon_5 : decode cX6_isWon 5 = .ok (.getfield 25, 3) := by decide +kernel
theorem dX6_isWon_8 : decode cX6_isWon 8 = .ok (.iconst 0, 1) := by decide +kernel
theorem dX6_isWon_9 : decode cX6_isWon 9 = .ok (.iaload, 1) := by decide +kernel
theorem dX6_isWon_10 : decode cX6_isWon 10 = .ok (.aload_n 0, 1) := by decide +kernel
theorem dX6_isWon_11 : decode cX6_isWon 11 = .ok (.getfield 25, 3) := by decide +kernel
theorem dX6_isWon_14 : decode cX6_isWon 14 = .ok (.iconst 1, 1) := by decide +kernel
theorem dX6_isWon_15 : decode cX6_isWon 15 = .ok (.iaload, 1) := by decide +kernel
theorem dX6_isWon_16 : decode cX6_isWon 16 = .ok (.imul, 1) := by decide +kernel
theorem dX6_isWon_17 : decode cX6_isWon 17 = .ok (.if_icmp .ne 7, 3) := by decide +kernel
theorem dX6_isWon_20 : decode cX6_isWon 20 = .ok (.iconst 1, 1) := by decide +kernel
theorem dX6_isWon_21 : decode cX6_isWon 21 = .ok (.goto 4, 3) := by decide +kernel
theorem dX6_isWon_24 : decode cX6_isWon 24 = .ok (.iconst 0, 1) := by decide +kernel
theorem dX6_isWon_25 : decode cX6_isWon 25 = .ok (.ireturn, 1) := by decide +kernel
theorem dX6_doMove_0 : decode cX6_doMove 0 = .ok (.aload_n 0, 1) := by decide +kernel
theorem dX6_doMove_1 : decode cX6_doMove 1 = .ok (.iload_n 1, 1) := by decide +kernel
theorem dX6_doMove_2 : decode cX6_doMove 2 = .ok (.iload_n 2, 1) := by decide +kernel
theorem dX6_doMove_3 : decode cX6_doMove 3 = .ok (.iload_n 3, 1) := by decide +kernel
theorem dX6_doMove_4 : decode cX6_doMove 4 = .ok (.invokevirtual 205, 3) := by decide +kernel
theorem dX6_doMove_7 : decode cX6_doMove 7 = .ok (.aload_n 0, 1) := by decide +kernel
theorem dX6_doMove_8 : decode cX6_doMove 8 = .ok (.dup, 1) := by decide +kernel
theorem dX6_doMove_9 : decode cX6_doMove 9 = .ok (.getfield 148, 3) := by decide +kernel
theorem dX6_doMove_12 : decode cX6_doMove 12 = .ok (.iconst 1, 1) := by decide +kernel
theorem dX6_doMove_13 : decode cX6_doMove 13 = .ok (.iadd, 1) := by decide +kernel
theorem dX6_doMove_14 : decode cX6_doMove 14 = .ok (.putfield 148, 3) := by decide +kernel
theorem dX6_doMove_17 : decode cX6_doMove 17 = .ok (.aload_n 0, 1) := by decide +kernel
theorem dX6_doMove_18 : decode cX6_doMove 18 = .ok (.aload_n 0, 1) := by decide +kernel
theorem dX6_doMove_19 : decode cX6_doMove 19 = .ok (.getfield 54, 3) := by decide +kernel
theorem dX6_doMove_22 : decode cX6_doMove 22 = .ok (.bipush 8, 2) := by decide +kernel
theorem dX6_doMove_24 : decode cX6_doMove 24 = .ok (.aload_n 0, 1) := by decide +kernel
theorem dX6_doMove_25 : decode cX6_doMove 25 = .ok (.getfield 148, 3) := by decide +kernel
theorem dX6_doMove_28 : decode cX6_doMove 28 = .ok (.imul, 1) := by decide +kernel
theorem dX6_doMove_29 : decode cX6_doMove 29 = .ok (.invokevirtual 79, 3) := by decide +kernel
theorem dX6_doMove_32 : decode cX6_doMove 32 = .ok (.return_, 1) := by decide +kernel
theorem dX6_move_0 : decode cX6_move 0 = .ok (.iload_n 1, 1) := by decide +kernel
theorem dX6_move_1 : decode cX6_move 1 = .ok (.iconst 0, 1) := by decide +kernel
theorem dX6_move_2 : decode cX6_move 2 = .ok (.bipush 9, 2) := by decide +kernel
theorem dX6_move_4 : decode cX6_move 4 = .ok (.invokestatic 99, 3) := by decide +kernel
theorem dX6_move_7 : decode cX6_move 7 = .ok (.ifCond .eq 53, 3) := by decide +kernel
theorem dX6_move_10 : decode cX6_move 10 = .ok (.iload_n 1, 1) := by decide +kernel
theorem dX6_move_11 : decode cX6_move 11 = .ok (.bipush 8, 2) := by decide +kernel
theorem dX6_move_13 : decode cX6_move 13 = .ok (.if_icmp .eq 47, 3) := by decide +kernel
theorem dX6_move_16 : decode cX6_move 16 = .ok (.iload_n 2, 1) := by decide +kernel
theorem dX6_move_17 : decode cX6_move 17 = .ok (.iconst 0, 1) := by decide +kernel
theorem dX6_move_18 : decode cX6_move 18 = .ok (.bipush 8, 2) := by decide +kernel
theorem dX6_move_20 : decode cX6_move 20 = .ok (.invokestatic 99, 3) := by decide +kernel
theorem dX6_move_23 : decode cX6_move 23 = .ok (.ifCond .eq 37, 3) := by decide +kernel
theorem dX6_move_26 : decode cX6_move 26 = .ok (.iload_n 1, 1) := by decide +kernel
theorem dX6_move_27 : decode cX6_move 27 = .ok (.iload_n 2, 1) := by decide +kernel
theorem dX6_move_28 : decode cX6_move 28 = .ok (.if_icmp .eq 32, 3) := by decide +kernel
theorem dX6_move_31 : decode cX6_move 31 = .ok (.iload_n 3, 1) := by decide +kernel
theorem dX6_move_32 : decode cX6_move 32 = .ok (.iconst 1, 1) := by decide +kernel
theorem dX6_move_33 : decode cX6_move 33 = .ok (.bipush 16, 2) := by decide +kernel
theorem dX6_move_35 : decode cX6_move 35 = .ok (.invokestatic 99, 3) := by decide +kernel
theorem dX6_move_38 : decode cX6_move 38 = .ok (.ifCond .eq 22, 3) := by decide +kernel
theorem dX6_move_41 : decode cX6_move 41 = .ok (.iload_n 3, 1) := by decide +kernel
theorem dX6_move_42 : decode cX6_move 42 = .ok (.iconst 1, 1) := by decide +kernel
theorem dX6_move_43 : decode cX6_move 43 = .ok (.if_icmp .eq 13, 3) := by decide +kernel
theorem dX6_move_46 : decode cX6_move 46 = .ok (.iload_n 1, 1) := by decide +kernel
theorem dX6_move_47 : decode cX6_move 47 = .ok (.iconst 5, 1) := by decide +kernel
theorem dX6_move_48 : decode cX6_move 48 = .ok (.if_icmp .ge 12, 3) := by decide +kernel
theorem dX6_move_51 : decode cX6_move 51 = .ok (.iload_n 2, 1) := by decide +kernel
theorem dX6_move_52 : decode cX6_move 52 = .ok (.iconst 5, 1) := by decide +kernel
theorem dX6_move_53 : decode cX6_move 53 = .ok (.if_icmp .ge 7, 3) := by decide +kernel
theorem dX6_move_56 : decode cX6_move 56 = .ok (.iconst 1, 1) := by decide +kernel
theorem dX6_move_57 : decode cX6_move 57 = .ok (.goto 4, 3) := by decide +kernel
theorem dX6_move_60 : decode cX6_move 60 = .ok (.iconst 0, 1) := by decide +kernel
theorem dX6_move_61 : decode cX6_move 61 = .ok (.istore 4, 2) := by decide +kernel
theorem dX6_move_63 : decode cX6_move 63 = .ok (.aload_n 0, 1) := by decide +kernel
theorem dX6_move_64 : decode cX6_move 64 = .ok (.iload 4, 2) := by decide +kernel
theorem dX6_move_66 : decode cX6_move 66 = .ok (.ifCond .ne 7, 3) := by decide +kernel
theorem dX6_move_69 : decode cX6_move 69 = .ok (.iconst 1, 1) := by decide +kernel
theorem dX6_move_70 : decode cX6_move 70 = .ok (.goto 28, 3) := by decide +kernel
theorem dX6_move_73 : decode cX6_move 73 = .ok (.aload_n 0, 1) := by decide +kernel
theorem dX6_move_74 : decode cX6_move 74 = .ok (.getfield 148, 3) := by decide +kernel
theorem dX6_move_77 : decode cX6_move 77 = .ok (.sipush 200, 3) := by decide +kernel
theorem dX6_move_80 : decode cX6_move 80 = .ok (.if_icmp .eq 13, 3) := by decide +kernel
theorem dX6_move_83 : decode cX6_move 83 = .ok (.aload_n 0, 1) := by decide +kernel
theorem dX6_move_84 : decode cX6_move 84 = .ok (.iload_n 1, 1) := by decide +kernel
theorem dX6_move_85 : decode cX6_move 85 = .ok (.iload_n 2, 1) := by decide +kernel
theorem dX6_move_86 : decode cX6_move 86 = .ok (.iload_n 3, 1) := by decide +kernel
theorem dX6_move_87 : decode cX6_move 87 = .ok (.invokevirtual 209, 3) := by decide +kernel
theorem dX6_move_90 : decode cX6_move 90 = .ok (.ifCond .ne 7, 3) := by decide +kernel
theorem dX6_move_93 : decode cX6_move 93 = .ok (.iconst 2, 1) := by decide +kernel
theorem dX6_move_94 : decode cX6_move 94 = .ok (.goto 4, 3) := by decide +kernel
theorem dX6_move_97 : decode cX6_move 97 = .ok (.iconst 0, 1) := by decide +kernel
theorem dX6_move_98 : decode cX6_move 98 = .ok (.invokevirtual 103, 3) := by decide +kernel
theorem dX6_move_101 : decode cX6_move 101 = .ok (.ifCond .ne 5, 3) := by decide +kernel
theorem dX6_move_104 : decode cX6_move 104 = .ok (.iconst 0, 1) := by decide +kernel
theorem dX6_move_105 : decode cX6_move 105 = .ok (.ireturn, 1) := by decide +kernel
theorem dX6_move_106 : decode cX6_move 106 = .ok (.aload_n 0, 1) := by decide +kernel
theorem dX6_move_107 : decode cX6_move 107 = .ok (.iload_n 1, 1) := by decide +kernel
theorem dX6_move_108 : decode cX6_move 108 = .ok (.iload_n 2, 1) := by decide +kernel
theorem dX6_move_109 : decode cX6_move 109 = .ok (.iload_n 3, 1) := by decide +kernel
theorem dX6_move_110 : decode cX6_move 110 = .ok (.invokevirtual 212, 3) := by decide +kernel
theorem dX6_move_113 : decode cX6_move 113 = .ok (.aload_n 0, 1) := by decide +kernel
theorem dX6_move_114 : decode cX6_move 114 = .ok (.invokevirtual 202, 3) := by decide +kernel
theorem dX6_move_117 : decode cX6_move 117 = .ok (.ireturn, 1) := by decide +kernel
theorem dX6_undo_0 : decode cX6_undo 0 = .ok (.aload_n 0, 1) := by decide +kernel
theorem dX6_undo_1 : decode cX6_undo 1 = .ok (.iload_n 1, 1) := by decide +kernel
theorem dX6_undo_2 : decode cX6_undo 2 = .ok (.iconst 1, 1) := by decide +kernel
theorem dX6_undo_3 : decode cX6_undo 3 = .ok (.sipush 200, 3) := by decide +kernel
theorem dX6_undo_6 : decode cX6_undo 6 = .ok (.invokestatic 99, 3) := by decide +kernel
theorem dX6_undo_9 : decode cX6_undo 9 = .ok (.ifCond .eq 7, 3) := by decide +kernel
theorem dX6_undo_12 : decode cX6_undo 12 = .ok (.iconst 0, 1) := by decide +kernel
theorem dX6_undo_13 : decode cX6_undo 13 = .ok (.goto 4, 3) := by decide +kernel
theorem dX6_undo_16 : decode cX6_undo 16 = .ok (.iconst 1, 1) := by decide +kernel
theorem dX6_undo_17 : decode cX6_undo 17 = .ok (.invokevirtual 103, 3) := by decide +kernel
theorem dX6_undo_20 : decode cX6_undo 20 = .ok (.ifCond .ne 5, 3) := by decide +kernel
theorem dX6_undo_23 : decode cX6_undo 23 = .ok (.iconst 0, 1) := by decide +kernel
theorem dX6_undo_24 : decode cX6_undo 24 = .ok (.ireturn, 1) := by decide +kernel
theorem dX6_undo_25 : decode cX6_undo 25 = .ok (.iload_n 1, 1) := by decide +kernel
theorem dX6_undo_26 : decode cX6_undo 26 = .ok (.aload_n 0, 1) := by decide +kernel
theorem dX6_undo_27 : decode cX6_undo 27 = .ok (.getfield 148, 3) := by decide +kernel
theorem dX6_undo_30 : decode cX6_undo 30 = .ok (.if_icmp .ge 7, 3) := by decide +kernel
theorem dX6_undo_33 : decode cX6_undo 33 = .ok (.iload_n 1, 1) := by decide +kernel
theorem dX6_undo_34 : decode cX6_undo 34 = .ok (.goto 7, 3) := by decide +kernel
theorem dX6_undo_37 : decode cX6_undo 37 = .ok (.aload_n 0, 1) := by decide +kernel
theorem dX6_undo_38 : decode cX6_undo 38 = .ok (.getfield 148, 3) := by decide +kernel
theorem dX6_undo_41 : decode cX6_undo 41 = .ok (.istore_n 2, 1) := by decide +kernel
theorem dX6_undo_42 : decode cX6_undo 42 = .ok (.aload_n 0, 1) := by decide +kernel
theorem dX6_undo_43 : decode cX6_undo 43 = .ok (.dup, 1) := by decide +kernel
theorem dX6_undo_44 : decode cX6_undo 44 = .ok (.getfield 148, 3) := by decide +kernel
theorem dX6_undo_47 : decode cX6_undo 47 = .ok (.iload_n 2, 1) := by decide +kernel
theorem dX6_undo_48 : decode cX6_undo 48 = .ok (.isub, 1) := by decide +kernel
theorem dX6_undo_49 : decode cX6_undo 49 = .ok (.putfield 148, 3) := by decide +kernel
theorem dX6_undo_52 : decode cX6_undo 52 = .ok (.aload_n 0, 1) := by decide +kernel
theorem dX6_undo_53 : decode cX6_undo 53 = .ok (.dup, 1) := by decide +kernel
theorem dX6_undo_54 : decode cX6_undo 54 = .ok (.getfield 151, 3) := by decide +kernel
theorem dX6_undo_57 : decode cX6_undo 57 = .ok (.iload_n 2, 1) := by decide +kernel
theorem dX6_undo_58 : decode cX6_undo 58 = .ok (.iadd, 1) := by decide +kernel
theorem dX6_undo_59 : decode cX6_undo 59 = .ok (.putfield 151, 3) := by decide +kernel
theorem dX6_undo_62 : decode cX6_undo 62 = .ok (.aload_n 0, 1) := by decide +kernel
theorem dX6_undo_63 : decode cX6_undo 63 = .ok (.aload_n 0, 1) := by decide +kernel
theorem dX6_undo_64 : decode cX6_undo 64 = .ok (.getfield 54, 3) := by decide +kernel
theorem dX6_undo_67 : decode cX6_undo 67 = .ok (.bipush 8, 2) := by decide +kernel
theorem dX6_undo_69 : decode cX6_undo 69 = .ok (.aload_n 0, 1) := by decide +kernel
theorem dX6_undo_70 : decode cX6_undo 70 = .ok (.getfield 148, 3) := by decide +kernel
theorem dX6_undo_73 : decode cX6_undo 73 = .ok (.imul, 1) := by decide +kernel
theorem dX6_undo_74 : decode cX6_undo 74 = .ok (.invokevirtual 154, 3) := by decide +kernel
theorem dX6_undo_77 : decode cX6_undo 77 = .ok (.iload_n 2, 1) := by decide +kernel
theorem dX6_undo_78 : decode cX6_undo 78 = .ok (.ireturn, 1) := by decide +kernel
theorem dX6_isSafe_0 : decode cX6_isSafe 0 = .ok (.iconst 1, 1) := by decide +kernel
theorem dX6_isSafe_1 : decode cX6_isSafe 1 = .ok (.istore_n 2, 1) := by decide +kernel
theorem dX6_isSafe_2 : decode cX6_isSafe 2 = .ok (.iconst 0, 1) := by decide +kernel
theorem dX6_isSafe_3 : decode cX6_isSafe 3 = .ok (.istore_n 3, 1) := by decide +kernel
theorem dX6_isSafe_4 : decode cX6_isSafe 4 = .ok (.iload_n 3, 1) := by decide +kernel
theorem dX6_isSafe_5 : decode cX6_isSafe 5 = .ok (.aload_n 0, 1) := by decide +kernel
theorem dX6_isSafe_6 : decode cX6_isSafe 6 = .ok (.getfield 25, 3) := by decide +kernel
theorem dX6_isSafe_9 : decode cX6_isSafe 9 = .ok (.iconst 0, 1) := by decide +kernel
theorem dX6_isSafe_10 : decode cX6_isSafe 10 = .ok (.iaload, 1) := by decide +kernel
theorem dX6_isSafe_11 : decode cX6_isSafe 11 = .ok (.aload_n 0, 1) := by decide +kernel
theorem dX6_isSafe_12 : decode cX6_isSafe 12 = .ok (.getfield 25, 3) := by decide +kernel
theorem dX6_isSafe_15 : decode cX6_isSafe 15 = .ok (.iconst 1, 1) := by decide +kernel
theorem dX6_isSafe_16 : decode cX6_isSafe 16 = .ok (.iaload, 1) := by decide +kernel
theorem dX6_isSafe_17 : decode cX6_isSafe 17 = .ok (.imul, 1) := by decide +kernel
theorem dX6_isSafe_18 : decode cX6_isSafe 18 = .ok (.if_icmp .ge 46, 3) := by decide +kernel
theorem dX6_isSafe_21 : decode cX6_isSafe 21 = .ok (.iload_n 2, 1) := by decide +kernel
theorem dX6_isSafe_22 : decode cX6_isSafe 22 = .ok (.ifCond .eq 34, 3) := by decide +kernel
theorem dX6_isSafe_25 : decode cX6_isSafe 25 = .ok (.aload_n 0, 1) := by decide +kernel
theorem dX6_isSafe_26 : decode cX6_isSafe 26 = .ok (.iload_n 3, 1) := by decide +kernel
theorem dX6_isSafe_27 : decode cX6_isSafe 27 = .ok (.invokevirtual 177, 3) := by decide +kernel
theorem dX6_isSafe_30 : decode cX6_isSafe 30 = .ok (.aload_n 0, 1) := by decide +kernel
theorem dX6_isSafe_31 : decode cX6_isSafe 31 = .ok (.getfield 45, 3) := by decide +kernel
theorem dX6_isSafe_34 : decode cX6_isSafe 34 = .ok (.aload_n 0, 1) := by decide +kernel
theorem dX6_isSafe_35 : decode cX6_isSafe 35 = .ok (.iload_n 3, 1) := by decide +kernel
theorem dX6_isSafe_36 : decode cX6_isSafe 36 = .ok (.invokevirtual 173, 3) := by decide +kernel
theorem dX6_isSafe_39 : decode cX6_isSafe 39 = .ok (.iaload, 1) := by decide +kernel
theorem dX6_isSafe_40 : decode cX6_isSafe 40 = .ok (.if_icmp .le 12, 3) := by decide +kernel
theorem dX6_isSafe_43 : decode cX6_isSafe 43 = .ok (.aload_n 0, 1) := by decide +kernel
theorem dX6_isSafe_44 : decode cX6_isSafe 44 = .ok (.iload_n 3, 1) := by decide +kernel
theorem dX6_isSafe_45 : decode cX6_isSafe 45 = .ok (.iload_n 1, 1) := by decide +kernel
theorem dX6_isSafe_46 : decode cX6_isSafe 46 = .ok (.invokevirtual 180, 3) := by decide +kernel
theorem dX6_isSafe_49 : decode cX6_isSafe 49 = .ok (.ifCond .ne 7, 3) := by decide +kernel
theorem dX6_isSafe_52 : decode cX6_isSafe 52 = .ok (.iconst 1, 1) := by decide +kernel
theorem dX6_isSafe_53 : decode cX6_isSafe 53 = .ok (.goto 4, 3) := by decide +kernel
theorem dX6_isSafe_56 : decode cX6_isSafe 56 = .ok (.iconst 0, 1) := by decide +kernel
theorem dX6_isSafe_57 : decode cX6_isSafe 57 = .ok (.istore_n 2, 1) := by decide +kernel
theorem dX6_isSafe_58 : decode cX6_isSafe 58 = .ok (.iinc 3 1, 3) := by decide +kernel
theorem dX6_isSafe_61 : decode cX6_isSafe 61 = .ok (.goto (-57), 3) := by decide +kernel
theorem dX6_isSafe_64 : decode cX6_isSafe 64 = .ok (.iload_n 2, 1) := by decide +kernel
theorem dX6_isSafe_65 : decode cX6_isSafe 65 = .ok (.ireturn, 1) := by decide +kernel
theorem dX6_safe_0 : decode cX6_safe 0 = .ok (.aload_n 0, 1) := by decide +kernel
theorem dX6_safe_1 : decode cX6_safe 1 = .ok (.iconst 0, 1) := by decide +kernel
theorem dX6_safe_2 : decode cX6_safe 2 = .ok (.putfield 83, 3) := by decide +kernel
theorem dX6_safe_5 : decode cX6_safe 5 = .ok (.iconst 0, 1) := by decide +kernel
theorem dX6_safe_6 : decode cX6_safe 6 = .ok (.istore_n 1, 1) := by decide +kernel
theorem dX6_safe_7 : decode cX6_safe 7 = .ok (.iconst 1, 1) := by decide +kernel
theorem dX6_safe_8 : decode cX6_safe 8 = .ok (.istore_n 2, 1) := by decide +kernel
theorem dX6_safe_9 : decode cX6_safe 9 = .ok (.iload_n 2, 1) := by decide +kernel
theorem dX6_safe_10 : decode cX6_safe 10 = .ok (.ifCond .eq 80, 3) := by decide +kernel
theorem dX6_safe_13 : decode cX6_safe 13 = .ok (.aload_n 0, 1) := by decide +kernel
theorem dX6_safe_14 : decode cX6_safe 14 = .ok (.getfield 148, 3) := by decide +kernel
theorem dX6_safe_17 : decode cX6_safe 17 = .ok (.sipush 200, 3) := by decide +kernel
theorem dX6_safe_20 : decode cX6_safe 20 = .ok (.if_icmp .ge 70, 3) := by decide +kernel
theorem dX6_safe_23 : decode cX6_safe 23 = .ok (.iconst 0, 1) := by decide +kernel
theorem dX6_safe_24 : decode cX6_safe 24 = .ok (.istore_n 2, 1) := by decide +kernel
theorem dX6_safe_25 : decode cX6_safe 25 = .ok (.iconst 0, 1) := by decide +kernel
theorem dX6_safe_26 : decode cX6_safe 26 = .ok (.istore_n 3, 1) := by decide +kernel
theorem dX6_safe_27 : decode cX6_safe 27 = .ok (.iload_n 3, 1) := by decide +kernel
theorem dX6_safe_28 : decode cX6_safe 28 = .ok (.bipush 7, 2) := by decide +kernel
theorem dX6_safe_30 : decode cX6_safe 30 = .ok (.if_icmp .gt 57, 3) := by decide +kernel
theorem dX6_safe_33 : decode cX6_safe 33 = .ok (.iload_n 2, 1) := by decide +kernel
theorem dX6_safe_34 : decode cX6_safe 34 = .ok (.ifCond .ne 53, 3) := by decide +kernel
theorem dX6_safe_37 : decode cX6_safe 37 = .ok (.aload_n 0, 1) := by decide +kernel
theorem dX6_safe_38 : decode cX6_safe 38 = .ok (.iload_n 3, 1) := by decide +kernel
theorem dX6_safe_39 : decode cX6_safe 39 = .ok (.bipush 8, 2) := by decide +kernel
theorem dX6_safe_41 : decode cX6_safe 41 = .ok (.iconst 1, 1) := by decide +kernel
theorem dX6_safe_42 : decode cX6_safe 42 = .ok (.invokevirtual 209, 3) := by decide +kernel
theorem dX6_safe_45 : decode cX6_safe 45 = .ok (.ifCond .eq 19, 3) := by decide +kernel
theorem dX6_safe_48 : decode cX6_safe 48 = .ok (.aload_n 0, 1) := by decide +kernel
theorem dX6_safe_49 : decode cX6_safe 49 = .ok (.aload_n 0, 1) := by decide +kernel
theorem dX6_safe_50 : decode cX6_safe 50 = .ok (.iload_n 3, 1) := by decide +kernel
theorem dX6_safe_51 : decode cX6_safe 51 = .ok (.invokevirtual 190, 3) := by decide +kernel
theorem dX6_safe_54 : decode cX6_safe 54 = .ok (.invokevirtual 215, 3) := by decide +kernel
theorem dX6_safe_57 : decode cX6_safe 57 = .ok (.ifCond .eq 7, 3) := by decide +kernel
theorem dX6_safe_60 : decode cX6_safe 60 = .ok (.iconst 1, 1) := by decide +kernel
theorem dX6_safe_61 : decode cX6_safe 61 = .ok (.goto 4, 3) := by decide +kernel
theorem dX6_safe_64 : decode cX6_safe 64 = .ok (.iconst 0, 1) := by decide +kernel
theorem dX6_safe_65 : decode cX6_safe 65 = .ok (.istore_n 2, 1) := by decide +kernel
theorem dX6_safe_66 : decode cX6_safe 66 = .ok (.iload_n 2, 1) := by decide +kernel
theorem dX6_safe_67 : decode cX6_safe 67 = .ok (.ifCond .eq 14, 3) := by decide +kernel
theorem dX6_safe_70 : decode cX6_safe 70 = .ok (.aload_n 0, 1) := by decide +kernel
theorem dX6_safe_71 : decode cX6_safe 71 = .ok (.iload_n 3, 1) := by decide +kernel
theorem dX6_safe_72 : decode cX6_safe 72 = .ok (.bipush 8, 2) := by decide +kernel
theorem dX6_safe_74 : decode cX6_safe 74 = .ok (.iconst 1, 1) := by decide +kernel
theorem dX6_safe_75 : decode cX6_safe 75 = .ok (.invokevirtual 212, 3) := by decide +kernel
theorem dX6_safe_78 : decode cX6_safe 78 = .ok (.iinc 1 1, 3) := by decide +kernel
theorem dX6_safe_81 : decode cX6_safe 81 = .ok (.iinc 3 1, 3) := by decide +kernel
theorem dX6_safe_84 : decode cX6_safe 84 = .ok (.goto (-57), 3) := by decide +kernel
theorem dX6_safe_87 : decode cX6_safe 87 = .ok (.goto (-78), 3) := by decide +kernel
theorem dX6_safe_90 : decode cX6_safe 90 = .ok (.iload_n 1, 1) := by decide +kernel
theorem dX6_safe_91 : decode cX6_safe 91 = .ok (.ireturn, 1) := by decide +kernel
theorem dX6_find_0 : decode cX6_find 0 = .ok (.iconst 0, 1) := by decide +kernel
theorem dX6_find_1 : decode cX6_find 1 = .ok (.istore_n 2, 1) := by decide +kernel
theorem dX6_find_2 : decode cX6_find 2 = .ok (.iconst 0, 1) := by decide +kernel
theorem dX6_find_3 : decode cX6_find 3 = .ok (.istore_n 3, 1) := by decide +kernel
theorem dX6_find_4 : decode cX6_find 4 = .ok (.iload_n 3, 1) := by decide +kernel
theorem dX6_find_5 : decode cX6_find 5 = .ok (.sipush 1440, 3) := by decide +kernel
theorem dX6_find_8 : decode cX6_find 8 = .ok (.if_icmp .ge 107, 3) := by decide +kernel
theorem dX6_find_11 : decode cX6_find 11 = .ok (.iload_n 3, 1) := by decide +kernel
theorem dX6_find_12 : decode cX6_find 12 = .ok (.sipush 144, 3) := by decide +kernel
theorem dX6_find_15 : decode cX6_find 15 = .ok (.idiv, 1) := by decide +kernel
theorem dX6_find_16 : decode cX6_find 16 = .ok (.istore 4, 2) := by decide +kernel
theorem dX6_find_18 : decode cX6_find 18 = .ok (.iload_n 3, 1) := by decide +kernel
theorem dX6_find_19 : decode cX6_find 19 = .ok (.bipush 16, 2) := by decide +kernel
theorem dX6_find_21 : decode cX6_find 21 = .ok (.idiv, 1) := by decide +kernel
theorem dX6_find_22 : decode cX6_find 22 = .ok (.bipush 9, 2) := by decide +kernel
theorem dX6_find_24 : decode cX6_find 24 = .ok (.irem, 1) := by decide +kernel
theorem dX6_find_25 : decode cX6_find 25 = .ok (.istore 5, 2) := by decide +kernel
theorem dX6_find_27 : decode cX6_find 27 = .ok (.iload_n 3, 1) := by decide +kernel
theorem dX6_find_28 : decode cX6_find 28 = .ok (.bipush 16, 2) := by decide +kernel
theorem dX6_find_30 : decode cX6_find 30 = .ok (.irem, 1) := by decide +kernel
theorem dX6_find_31 : decode cX6_find 31 = .ok (.iconst 1, 1) := by decide +kernel
theorem dX6_find_32 : decode cX6_find 32 = .ok (.iadd, 1) := by decide +kernel
theorem dX6_find_33 : decode cX6_find 33 = .ok (.istore 6, 2) := by decide +kernel
theorem dX6_find_35 : decode cX6_find 35 = .ok (.iload 4, 2) := by decide +kernel
theorem dX6_find_37 : decode cX6_find 37 = .ok (.bipush 8, 2) := by decide +kernel
theorem dX6_find_39 : decode cX6_find 39 = .ok (.if_icmp .eq 25, 3) := by decide +kernel
theorem dX6_find_42 : decode cX6_find 42 = .ok (.iload 6, 2) := by decide +kernel
theorem dX6_find_44 : decode cX6_find 44 = .ok (.iconst 1, 1) := by decide +kernel
theorem dX6_find_45 : decode cX6_find 45 = .ok (.if_icmp .eq 15, 3) := by decide +kernel
theorem dX6_find_48 : decode cX6_find 48 = .ok (.iload 4, 2) := by decide +kernel
theorem dX6_find_50 : decode cX6_find 50 = .ok (.iconst 5, 1) := by decide +kernel
theorem dX6_find_51 : decode cX6_find 51 = .ok (.if_icmp .ge 13, 3) := by decide +kernel
theorem dX6_find_54 : decode cX6_find 54 = .ok (.iload 5, 2) := by decide +kernel
theorem dX6_find_56 : decode cX6_find 56 = .ok (.iconst 5, 1) := by decide +kernel
theorem dX6_find_57 : decode cX6_find 57 = .ok (.if_icmp .ge 7, 3) := by decide +kernel
theorem dX6_find_60 : decode cX6_find 60 = .ok (.iconst 1, 1) := by decide +kernel
theorem dX6_find_61 : decode cX6_find 61 = .ok (.goto 4, 3) := by decide +kernel
theorem dX6_find_64 : decode cX6_find 64 = .ok (.iconst 0, 1) := by decide +kernel
theorem dX6_find_65 : decode cX6_find 65 = .ok (.istore 7, 2) := by decide +kernel
theorem dX6_find_67 : decode cX6_find 67 = .ok (.iload 7, 2) := by decide +kernel
theorem dX6_find_69 : decode cX6_find 69 = .ok (.ifCond .eq 40, 3) := by decide +kernel
theorem dX6_find_72 : decode cX6_find 72 = .ok (.aload_n 0, 1) := by decide +kernel
theorem dX6_find_73 : decode cX6_find 73 = .ok (.iload 4, 2) := by decide +kernel
theorem dX6_find_75 : decode cX6_find 75 = .ok (.iload 5, 2) := by decide +kernel
theorem dX6_find_77 : decode cX6_find 77 = .ok (.iload 6, 2) := by decide +kernel
theorem dX6_find_79 : decode cX6_find 79 = .ok (.invokevirtual 209, 3) := by decide +kernel
theorem dX6_find_82 : decode cX6_find 82 = .ok (.ifCond .eq 27, 3) := by decide +kernel
theorem dX6_find_85 : decode cX6_find 85 = .ok (.iload_n 2, 1) := by decide +kernel
theorem dX6_find_86 : decode cX6_find 86 = .ok (.iload_n 1, 1) := by decide +kernel
theorem dX6_find_87 : decode cX6_find 87 = .ok (.if_icmp .ne 19, 3) := by decide +kernel
theorem dX6_find_90 : decode cX6_find 90 = .ok (.sipush 1000, 3) := by decide +kernel
theorem dX6_find_93 : decode cX6_find 93 = .ok (.iload 4, 2) := by decide +kernel
theorem dX6_find_95 : decode cX6_find 95 = .ok (.imul, 1) := by decide +kernel
theorem dX6_find_96 : decode cX6_find 96 = .ok (.bipush 100, 2) := by decide +kernel
theorem dX6_find_98 : decode cX6_find 98 = .ok (.iload 5, 2) := by decide +kernel
theorem dX6_find_100 : decode cX6_find 100 = .ok (.imul, 1) := by decide +kernel
theorem dX6_find_101 : decode cX6_find 101 = .ok (.iadd, 1) := by decide +kernel
theorem dX6_find_102 : decode cX6_find 102 = .ok (.iload 6, 2) := by decide +kernel
theorem dX6_find_104 : decode cX6_find 104 = .ok (.iadd, 1) := by decide +kernel
theorem dX6_find_105 : decode cX6_find 105 = .ok (.ireturn, 1) := by decide +kernel
theorem dX6_find_106 : decode cX6_find 106 = .ok (.iinc 2 1, 3) := by decide +kernel
theorem dX6_find_109 : decode cX6_find 109 = .ok (.iinc 3 1, 3) := by decide +kernel
theorem dX6_find_112 : decode cX6_find 112 = .ok (.goto (-108), 3) := by decide +kernel
theorem dX6_find_115 : decode cX6_find 115 = .ok (.iconst (-1), 1) := by decide +kernel
theorem dX6_find_116 : decode cX6_find 116 = .ok (.iload_n 2, 1) := by decide +kernel
theorem dX6_find_117 : decode cX6_find 117 = .ok (.isub, 1) := by decide +kernel
theorem dX6_find_118 : decode cX6_find 118 = .ok (.ireturn, 1) := by decide +kernel
theorem dX6_moves_0 : decode cX6_moves 0 = .ok (.aload_n 0, 1) := by decide +kernel
theorem dX6_moves_1 : decode cX6_moves 1 = .ok (.iconst 0, 1) := by decide +kernel
theorem dX6_moves_2 : decode cX6_moves 2 = .ok (.putfield 83, 3) := by decide +kernel
theorem dX6_moves_5 : decode cX6_moves 5 = .ok (.iconst (-1), 1) := by decide +kernel
theorem dX6_moves_6 : decode cX6_moves 6 = .ok (.aload_n 0, 1) := by decide +kernel
theorem dX6_moves_7 : decode cX6_moves 7 = .ok (.iconst (-1), 1) := by decide +kernel
theorem dX6_moves_8 : decode cX6_moves 8 = .ok (.invokevirtual 218, 3) := by decide +kernel
theorem dX6_moves_11 : decode cX6_moves 11 = .ok (.isub, 1) := by decide +kernel
theorem dX6_moves_12 : decode cX6_moves 12 = .ok (.ireturn, 1) := by decide +kernel
theorem dX6_moveAt_0 : decode cX6_moveAt 0 = .ok (.aload_n 0, 1) := by decide +kernel
theorem dX6_moveAt_1 : decode cX6_moveAt 1 = .ok (.iload_n 1, 1) := by decide +kernel
theorem dX6_moveAt_2 : decode cX6_moveAt 2 = .ok (.ifCond .lt 7, 3) := by decide +kernel
theorem dX6_moveAt_5 : decode cX6_moveAt 5 = .ok (.iconst 0, 1) := by decide +kernel
theorem dX6_moveAt_6 : decode cX6_moveAt 6 = .ok (.goto 4, 3) := by decide +kernel
theorem dX6_moveAt_9 : decode cX6_moveAt 9 = .ok (.iconst 1, 1) := by decide +kernel
theorem dX6_moveAt_10 : decode cX6_moveAt 10 = .ok (.invokevirtual 103, 3) := by decide +kernel
theorem dX6_moveAt_13 : decode cX6_moveAt 13 = .ok (.ifCond .ne 5, 3) := by decide +kernel
theorem dX6_moveAt_16 : decode cX6_moveAt 16 = .ok (.iconst 0, 1) := by decide +kernel
theorem dX6_moveAt_17 : decode cX6_moveAt 17 = .ok (.ireturn, 1) := by decide +kernel
theorem dX6_moveAt_18 : decode cX6_moveAt 18 = .ok (.aload_n 0, 1) := by decide +kernel
theorem dX6_moveAt_19 : decode cX6_moveAt 19 = .ok (.iload_n 1, 1) := by decide +kernel
theorem dX6_moveAt_20 : decode cX6_moveAt 20 = .ok (.invokevirtual 218, 3) := by decide +kernel
theorem dX6_moveAt_23 : decode cX6_moveAt 23 = .ok (.istore_n 2, 1) := by decide +kernel
theorem dX6_moveAt_24 : decode cX6_moveAt 24 = .ok (.iload_n 2, 1) := by decide +kernel
theorem dX6_moveAt_25 : decode cX6_moveAt 25 = .ok (.ifCond .ge 7, 3) := by decide +kernel
theorem dX6_moveAt_28 : decode cX6_moveAt 28 = .ok (.iconst (-1), 1) := by decide +kernel
theorem dX6_moveAt_29 : decode cX6_moveAt 29 = .ok (.goto 4, 3) := by decide +kernel
theorem dX6_moveAt_32 : decode cX6_moveAt 32 = .ok (.iload_n 2, 1) := by decide +kernel
theorem dX6_moveAt_33 : decode cX6_moveAt 33 = .ok (.ireturn, 1) := by decide +kernel
theorem dX6_card_0 : decode cX6_card 0 = .ok (.aload_n 0, 1) := by decide +kernel
theorem dX6_card_1 : decode cX6_card 1 = .ok (.iload_n 1, 1) := by decide +kernel
theorem dX6_card_2 : decode cX6_card 2 = .ok (.iconst 0, 1) := by decide +kernel
theorem dX6_card_3 : decode cX6_card 3 = .ok (.bipush 9, 2) := by decide +kernel
theorem dX6_card_5 : decode cX6_card 5 = .ok (.invokestatic 99, 3) := by decide +kernel
theorem dX6_card_8 : decode cX6_card 8 = .ok (.ifCond .eq 11, 3) := by decide +kernel
theorem dX6_card_11 : decode cX6_card 11 = .ok (.iload_n 2, 1) := by decide +kernel
theorem dX6_card_12 : decode cX6_card 12 = .ok (.ifCond .lt 7, 3) := by decide +kernel
theorem dX6_card_15 : decode cX6_card 15 = .ok (.iconst 0, 1) := by decide +kernel
theorem dX6_card_16 : decode cX6_card 16 = .ok (.goto 4, 3) := by decide +kernel
theorem dX6_card_19 : decode cX6_card 19 = .ok (.iconst 1, 1) := by decide +kernel
theorem dX6_card_20 : decode cX6_card 20 = .ok (.invokevirtual 103, 3) := by decide +kernel
theorem dX6_card_23 : decode cX6_card 23 = .ok (.ifCond .ne 5, 3) := by decide +kernel
theorem dX6_card_26 : decode cX6_card 26 = .ok (.iconst 0, 1) := by decide +kernel
theorem dX6_card_27 : decode cX6_card 27 = .ok (.ireturn, 1) := by decide +kernel
theorem dX6_card_28 : decode cX6_card 28 = .ok (.iload_n 1, 1) := by decide +kernel
theorem dX6_card_29 : decode cX6_card 29 = .ok (.iconst 5, 1) := by decide +kernel
theorem dX6_card_30 : decode cX6_card 30 = .ok (.if_icmp .ge 39, 3) := by decide +kernel
theorem dX6_card_33 : decode cX6_card 33 = .ok (.iload_n 2, 1) := by decide +kernel
theorem dX6_card_34 : decode cX6_card 34 = .ok (.aload_n 0, 1) := by decide +kernel
theorem dX6_card_35 : decode cX6_card 35 = .ok (.getfield 36, 3) := by decide +kernel
theorem dX6_card_38 : decode cX6_card 38 = .ok (.iload_n 1, 1) := by decide +kernel
theorem dX6_card_39 : decode cX6_card 39 = .ok (.iaload, 1) := by decide +kernel
theorem dX6_card_40 : decode cX6_card 40 = .ok (.if_icmp .lt 7, 3) := by decide +kernel
theorem dX6_card_43 : decode cX6_card 43 = .ok (.iconst (-1), 1) := by decide +kernel
theorem dX6_card_44 : decode cX6_card 44 = .ok (.goto 24, 3) := by decide +kernel
theorem dX6_card_47 : decode cX6_card 47 = .ok (.iload_n 2, 1) := by decide +kernel
theorem dX6_card_48 : decode cX6_card 48 = .ok (.aload_n 0, 1) := by decide +kernel
theorem dX6_card_49 : decode cX6_card 49 = .ok (.getfield 39, 3) := by decide +kernel
theorem dX6_card_52 : decode cX6_card 52 = .ok (.iload_n 1, 1) := by decide +kernel
theorem dX6_card_53 : decode cX6_card 53 = .ok (.iaload, 1) := by decide +kernel
theorem dX6_card_54 : decode cX6_card 54 = .ok (.if_icmp .ge 8, 3) := by decide +kernel
theorem dX6_card_57 : decode cX6_card 57 = .ok (.bipush (-2), 2) := by decide +kernel
theorem dX6_card_59 : decode cX6_card 59 = .ok (.goto 9, 3) := by decide +kernel
theorem dX6_card_62 : decode cX6_card 62 = .ok (.aload_n 0, 1) := by decide +kernel
theorem dX6_card_63 : decode cX6_card 63 = .ok (.iload_n 1, 1) := by decide +kernel
theorem dX6_card_64 : decode cX6_card 64 = .ok (.iload_n 2, 1) := by decide +kernel
theorem dX6_card_65 : decode cX6_card 65 = .ok (.invokevirtual 159, 3) := by decide +kernel
theorem dX6_card_68 : decode cX6_card 68 = .ok (.ireturn, 1) := by decide +kernel
theorem dX6_card_69 : decode cX6_card 69 = .ok (.iload_n 1, 1) := by decide +kernel
theorem dX6_card_70 : decode cX6_card 70 = .ok (.bipush 7, 2) := by decide +kernel
theorem dX6_card_72 : decode cX6_card 72 = .ok (.if_icmp .ge 20, 3) := by decide +kernel
theorem dX6_card_75 : decode cX6_card 75 = .ok (.iload_n 2, 1) := by decide +kernel
theorem dX6_card_76 : decode cX6_card 76 = .ok (.ifCond .ne 14, 3) := by decide +kernel
theorem dX6_card_79 : decode cX6_card 79 = .ok (.aload_n 0, 1) := by decide +kernel
theorem dX6_card_80 : decode cX6_card 80 = .ok (.getfield 42, 3) := by decide +kernel
theorem dX6_card_83 : decode cX6_card 83 = .ok (.iload_n 1, 1) := by decide +kernel
theorem dX6_card_84 : decode cX6_card 84 = .ok (.iconst 5, 1) := by decide +kernel
theorem dX6_card_85 : decode cX6_card 85 = .ok (.isub, 1) := by decide +kernel
theorem dX6_card_86 : decode cX6_card 86 = .ok (.iaload, 1) := by decide +kernel
theorem dX6_card_87 : decode cX6_card 87 = .ok (.goto 4, 3) := by decide +kernel
theorem dX6_card_90 : decode cX6_card 90 = .ok (.iconst (-1), 1) := by decide +kernel
theorem dX6_card_91 : decode cX6_card 91 = .ok (.ireturn, 1) := by decide +kernel
theorem dX6_card_92 : decode cX6_card 92 = .ok (.iload_n 1, 1) := by decide +kernel
theorem dX6_card_93 : decode cX6_card 93 = .ok (.bipush 8, 2) := by decide +kernel
theorem dX6_card_95 : decode cX6_card 95 = .ok (.if_icmp .ne 44, 3) := by decide +kernel
theorem dX6_card_98 : decode cX6_card 98 = .ok (.iload_n 2, 1) := by decide +kernel
theorem dX6_card_99 : decode cX6_card 99 = .ok (.aload_n 0, 1) := by decide +kernel
theorem dX6_card_100 : decode cX6_card 100 = .ok (.getfield 25, 3) := by decide +kernel
theorem dX6_card_103 : decode cX6_card 103 = .ok (.iconst 0, 1) := by decide +kernel
theorem dX6_card_104 : decode cX6_card 104 = .ok (.iaload, 1) := by decide +kernel
theorem dX6_card_105 : decode cX6_card 105 = .ok (.if_icmp .ge 32, 3) := by decide +kernel
theorem dX6_card_108 : decode cX6_card 108 = .ok (.aload_n 0, 1) := by decide +kernel
theorem dX6_card_109 : decode cX6_card 109 = .ok (.getfield 45, 3) := by decide +kernel
theorem dX6_card_112 : decode cX6_card 112 = .ok (.iload_n 2, 1) := by decide +kernel
theorem dX6_card_113 : decode cX6_card 113 = .ok (.iaload, 1) := by decide +kernel
theorem dX6_card_114 : decode cX6_card 114 = .ok (.ifCond .le 23, 3) := by decide +kernel
theorem dX6_card_117 : decode cX6_card 117 = .ok (.iload_n 2, 1) := by decide +kernel
theorem dX6_card_118 : decode cX6_card 118 = .ok (.aload_n 0, 1) := by decide +kernel
theorem dX6_card_119 : decode cX6_card 119 = .ok (.getfield 25, 3) := by decide +kernel
theorem dX6_card_122 : decode cX6_card 122 = .ok (.iconst 1, 1) := by decide +kernel
theorem dX6_card_123 : decode cX6_card 123 = .ok (.iaload, 1) := by decide +kernel
theorem dX6_card_124 : decode cX6_card 124 = .ok (.imul, 1) := by decide +kernel
theorem dX6_card_125 : decode cX6_card 125 = .ok (.aload_n 0, 1) := by decide +kernel
theorem dX6_card_126 : decode cX6_card 126 = .ok (.getfield 45, 3) := by decide +kernel
theorem dX6_card_129 : decode cX6_card 129 = .ok (.iload_n 2, 1) := by decide +kernel
theorem dX6_card_130 : decode cX6_card 130 = .ok (.iaload, 1) := by decide +kernel
theorem dX6_card_131 : decode cX6_card 131 = .ok (.iadd, 1) := by decide +kernel
theorem dX6_card_132 : decode cX6_card 132 = .ok (.iconst 1, 1) := by decide +kernel
theorem dX6_card_133 : decode cX6_card 133 = .ok (.isub, 1) := by decide +kernel
theorem dX6_card_134 : decode cX6_card 134 = .ok (.goto 4, 3) := by decide +kernel
theorem dX6_card_137 : decode cX6_card 137 = .ok (.iconst (-1), 1) := by decide +kernel
theorem dX6_card_138 : decode cX6_card 138 = .ok (.ireturn, 1) := by decide +kernel
theorem dX6_card_139 : decode cX6_card 139 = .ok (.iload_n 1, 1) := by decide +kernel
theorem dX6_card_140 : decode cX6_card 140 = .ok (.bipush 7, 2) := by decide +kernel
theorem dX6_card_142 : decode cX6_card 142 = .ok (.if_icmp .ne 10, 3) := by decide +kernel
theorem dX6_card_145 : decode cX6_card 145 = .ok (.aload_n 0, 1) := by decide +kernel
theorem dX6_card_146 : decode cX6_card 146 = .ok (.getfield 117, 3) := by decide +kernel
theorem dX6_card_149 : decode cX6_card 149 = .ok (.goto 7, 3) := by decide +kernel
theorem dX6_card_152 : decode cX6_card 152 = .ok (.aload_n 0, 1) := by decide +kernel
theorem dX6_card_153 : decode cX6_card 153 = .ok (.getfield 120, 3) := by decide +kernel
theorem dX6_card_156 : decode cX6_card 156 = .ok (.istore_n 3, 1) := by decide +kernel
theorem dX6_card_157 : decode cX6_card 157 = .ok (.iload_n 2, 1) := by decide +kernel
theorem dX6_card_158 : decode cX6_card 158 = .ok (.iload_n 3, 1) := by decide +kernel
theorem dX6_card_159 : decode cX6_card 159 = .ok (.if_icmp .lt 7, 3) := by decide +kernel
theorem dX6_card_162 : decode cX6_card 162 = .ok (.iconst (-1), 1) := by decide +kernel
theorem dX6_card_163 : decode cX6_card 163 = .ok (.goto 32, 3) := by decide +kernel
theorem dX6_card_166 : decode cX6_card 166 = .ok (.iload_n 1, 1) := by decide +kernel
theorem dX6_card_167 : decode cX6_card 167 = .ok (.bipush 7, 2) := by decide +kernel
theorem dX6_card_169 : decode cX6_card 169 = .ok (.if_icmp .ne 16, 3) := by decide +kernel
theorem dX6_card_172 : decode cX6_card 172 = .ok (.aload_n 0, 1) := by decide +kernel
theorem dX6_card_173 : decode cX6_card 173 = .ok (.getfield 48, 3) := by decide +kernel
theorem dX6_card_176 : decode cX6_card 176 = .ok (.iload_n 3, 1) := by decide +kernel
theorem dX6_card_177 : decode cX6_card 177 = .ok (.iconst 1, 1) := by decide +kernel
theorem dX6_card_178 : decode cX6_card 178 = .ok (.isub, 1) := by decide +kernel
theorem dX6_card_179 : decode cX6_card 179 = .ok (.iload_n 2, 1) := by decide +kernel
theorem dX6_card_180 : decode cX6_card 180 = .ok (.isub, 1) := by decide +kernel
theorem dX6_card_181 : decode cX6_card 181 = .ok (.iaload, 1) := by decide +kernel
theorem dX6_card_182 : decode cX6_card 182 = .ok (.goto 13, 3) := by decide +kernel
theorem dX6_card_185 : decode cX6_card 185 = .ok (.aload_n 0, 1) := by decide +kernel
theorem dX6_card_186 : decode cX6_card 186 = .ok (.getfield 51, 3) := by decide +kernel
theorem dX6_card_189 : decode cX6_card 189 = .ok (.iload_n 3, 1) := by decide +kernel
theorem dX6_card_190 : decode cX6_card 190 = .ok (.iconst 1, 1) := by decide +kernel
theorem dX6_card_191 : decode cX6_card 191 = .ok (.isub, 1) := by decide +kernel
theorem dX6_card_192 : decode cX6_card 192 = .ok (.iload_n 2, 1) := by decide +kernel
theorem dX6_card_193 : decode cX6_card 193 = .ok (.isub, 1) := by decide +kernel
theorem dX6_card_194 : decode cX6_card 194 = .ok (.iaload, 1) := by decide +kernel
theorem dX6_card_195 : decode cX6_card 195 = .ok (.ireturn, 1) := by decide +kernel
theorem dX6_money_0 : decode cX6_money 0 = .ok (.iconst 5, 1) := by decide +kernel
theorem dX6_money_1 : decode cX6_money 1 = .ok (.aload_n 0, 1) := by decide +kernel
theorem dX6_money_2 : decode cX6_money 2 = .ok (.invokevirtual 202, 3) := by decide +kernel
theorem dX6_money_5 : decode cX6_money 5 = .ok (.imul, 1) := by decide +kernel
theorem dX6_money_6 : decode cX6_money 6 = .ok (.aload_n 0, 1) := by decide +kernel
theorem dX6_money_7 : decode cX6_money 7 = .ok (.getfield 148, 3) := by decide +kernel
theorem dX6_money_10 : decode cX6_money 10 = .ok (.isub, 1) := by decide +kernel
theorem dX6_money_11 : decode cX6_money 11 = .ok (.iconst 2, 1) := by decide +kernel
theorem dX6_money_12 : decode cX6_money 12 = .ok (.aload_n 0, 1) := by decide +kernel
theorem dX6_money_13 : decode cX6_money 13 = .ok (.getfield 151, 3) := by decide +kernel
theorem dX6_money_16 : decode cX6_money 16 = .ok (.imul, 1) := by decide +kernel
theorem dX6_money_17 : decode cX6_money 17 = .ok (.isub, 1) := by decide +kernel
theorem dX6_money_18 : decode cX6_money 18 = .ok (.ireturn, 1) := by decide +kernel
theorem dX6_told_0 : decode cX6_told 0 = .ok (.aload_n 0, 1) := by decide +kernel
theorem dX6_told_1 : decode cX6_told 1 = .ok (.iload_n 1, 1) := by decide +kernel
theorem dX6_told_2 : decode cX6_told 2 = .ok (.iconst 0, 1) := by decide +kernel
theorem dX6_told_3 : decode cX6_told 3 = .ok (.bipush 7, 2) := by decide +kernel
theorem dX6_told_5 : decode cX6_told 5 = .ok (.invokestatic 99, 3) := by decide +kernel
theorem dX6_told_8 : decode cX6_told 8 = .ok (.ifCond .eq 7, 3) := by decide +kernel
theorem dX6_told_11 : decode cX6_told 11 = .ok (.iconst 0, 1) := by decide +kernel
theorem dX6_told_12 : decode cX6_told 12 = .ok (.goto 4, 3) := by decide +kernel
theorem dX6_told_15 : decode cX6_told 15 = .ok (.iconst 1, 1) := by decide +kernel
theorem dX6_told_16 : decode cX6_told 16 = .ok (.invokevirtual 103, 3) := by decide +kernel
theorem dX6_told_19 : decode cX6_told 19 = .ok (.ifCond .ne 5, 3) := by decide +kernel
theorem dX6_told_22 : decode cX6_told 22 = .ok (.iconst 0, 1) := by decide +kernel
theorem dX6_told_23 : decode cX6_told 23 = .ok (.ireturn, 1) := by decide +kernel
theorem dX6_told_24 : decode cX6_told 24 = .ok (.iload_n 1, 1) := by decide +kernel
theorem dX6_told_25 : decode cX6_told 25 = .ok (.tableswitch 91 0 6 #[43, 48, 53, 58, 63, 68, 78], 43) := by decide +kernel
theorem dX6_told_68 : decode cX6_told 68 = .ok (.aload_n 0, 1) := by decide +kernel
theorem dX6_told_69 : decode cX6_told 69 = .ok (.invokevirtual 202, 3) := by decide +kernel
theorem dX6_told_72 : decode cX6_told 72 = .ok (.ireturn, 1) := by decide +kernel
theorem dX6_told_73 : decode cX6_told 73 = .ok (.aload_n 0, 1) := by decide +kernel
theorem dX6_told_74 : decode cX6_told 74 = .ok (.getfield 148, 3) := by decide +kernel
theorem dX6_told_77 : decode cX6_told 77 = .ok (.ireturn, 1) := by decide +kernel
theorem dX6_told_78 : decode cX6_told 78 = .ok (.aload_n 0, 1) := by decide +kernel
theorem dX6_told_79 : decode cX6_told 79 = .ok (.getfield 151, 3) := by decide +kernel
theorem dX6_told_82 : decode cX6_told 82 = .ok (.ireturn, 1) := by decide +kernel
theorem dX6_told_83 : decode cX6_told 83 = .ok (.aload_n 0, 1) := by decide +kernel
theorem dX6_told_84 : decode cX6_told 84 = .ok (.getfield 123, 3) := by decide +kernel
theorem dX6_told_87 : decode cX6_told 87 = .ok (.ireturn, 1) := by decide +kernel
theorem dX6_told_88 : decode cX6_told 88 = .ok (.aload_n 0, 1) := by decide +kernel
theorem dX6_told_89 : decode cX6_told 89 = .ok (.invokevirtual 144, 3) := by decide +kernel
theorem dX6_told_92 : decode cX6_told 92 = .ok (.ireturn, 1) := by decide +kernel
theorem dX6_told_93 : decode cX6_told 93 = .ok (.aload_n 0, 1) := by decide +kernel
theorem dX6_told_94 : decode cX6_told 94 = .ok (.getfield 141, 3) := by decide +kernel
theorem dX6_told_97 : decode cX6_told 97 = .ok (.aload_n 0, 1) := by decide +kernel
theorem dX6_told_98 : decode cX6_told 98 = .ok (.invokevirtual 144, 3) := by decide +kernel
theorem dX6_told_101 : decode cX6_told 101 = .ok (.iadd, 1) := by decide +kernel
theorem dX6_told_102 : decode cX6_told 102 = .ok (.ireturn, 1) := by decide +kernel
theorem dX6_told_103 : decode cX6_told 103 = .ok (.aload_n 0, 1) := by decide +kernel
theorem dX6_told_104 : decode cX6_told 104 = .ok (.invokevirtual 221, 3) := by decide +kernel
theorem dX6_told_107 : decode cX6_told 107 = .ok (.ifCond .eq 7, 3) := by decide +kernel
theorem dX6_told_110 : decode cX6_told 110 = .ok (.iconst 1, 1) := by decide +kernel
theorem dX6_told_111 : decode cX6_told 111 = .ok (.goto 4, 3) := by decide +kernel
theorem dX6_told_114 : decode cX6_told 114 = .ok (.iconst 0, 1) := by decide +kernel
theorem dX6_told_115 : decode cX6_told 115 = .ok (.ireturn, 1) := by decide +kernel
theorem dX6_told_116 : decode cX6_told 116 = .ok (.aload_n 0, 1) := by decide +kernel
theorem dX6_told_117 : decode cX6_told 117 = .ok (.getfield 39, 3) := by decide +kernel
theorem dX6_told_120 : decode cX6_told 120 = .ok (.iconst 0, 1) := by decide +kernel
theorem dX6_told_121 : decode cX6_told 121 = .ok (.iaload, 1) := by decide +kernel
theorem dX6_told_122 : decode cX6_told 122 = .ok (.aload_n 0, 1) := by decide +kernel
theorem dX6_told_123 : decode cX6_told 123 = .ok (.getfield 39, 3) := by decide +kernel
theorem dX6_told_126 : decode cX6_told 126 = .ok (.iconst 1, 1) := by decide +kernel
theorem dX6_told_127 : decode cX6_told 127 = .ok (.iaload, 1) := by decide +kernel
theorem dX6_told_128 : decode cX6_told 128 = .ok (.iadd, 1) := by decide +kernel
theorem dX6_told_129 : decode cX6_told 129 = .ok (.aload_n 0, 1) := by decide +kernel
theorem dX6_told_130 : decode cX6_told 130 = .ok (.getfield 39, 3) := by decide +kernel
theorem dX6_told_133 : decode cX6_told 133 = .ok (.iconst 2, 1) := by decide +kernel
theorem dX6_told_134 : decode cX6_told 134 = .ok (.iaload, 1) := by decide +kernel
theorem dX6_told_135 : decode cX6_told 135 = .ok (.iadd, 1) := by decide +kernel
theorem dX6_told_136 : decode cX6_told 136 = .ok (.aload_n 0, 1) := by decide +kernel
theorem dX6_told_137 : decode cX6_told 137 = .ok (.getfield 39, 3) := by decide +kernel
theorem dX6_told_140 : decode cX6_told 140 = .ok (.iconst 3, 1) := by decide +kernel
theorem dX6_told_141 : decode cX6_told 141 = .ok (.iaload, 1) := by decide +kernel
theorem dX6_told_142 : decode cX6_told 142 = .ok (.iadd, 1) := by decide +kernel
theorem dX6_told_143 : decode cX6_told 143 = .ok (.aload_n 0, 1) := by decide +kernel
theorem dX6_told_144 : decode cX6_told 144 = .ok (.getfield 39, 3) := by decide +kernel
theorem dX6_told_147 : decode cX6_told 147 = .ok (.iconst 4, 1) := by decide +kernel
theorem dX6_told_148 : decode cX6_told 148 = .ok (.iaload, 1) := by decide +kernel
theorem dX6_told_149 : decode cX6_told 149 = .ok (.iadd, 1) := by decide +kernel
theorem dX6_told_150 : decode cX6_told 150 = .ok (.ireturn, 1) := by decide +kernel
theorem dX6_isAhead_0 : decode cX6_isAhead 0 = .ok (.aload_n 0, 1) := by decide +kernel
theorem dX6_isAhead_1 : decode cX6_isAhead 1 = .ok (.getfield 36, 3) := by decide +kernel
theorem dX6_isAhead_4 : decode cX6_isAhead 4 = .ok (.iload_n 1, 1) := by decide +kernel
theorem dX6_isAhead_5 : decode cX6_isAhead 5 = .ok (.iaload, 1) := by decide +kernel
theorem dX6_isAhead_6 : decode cX6_isAhead 6 = .ok (.i2l, 1) := by decide +kernel
theorem dX6_isAhead_7 : decode cX6_isAhead 7 = .ok (.aload_n 0, 1) := by decide +kernel
theorem dX6_isAhead_8 : decode cX6_isAhead 8 = .ok (.getfield 39, 3) := by decide +kernel
theorem dX6_isAhead_11 : decode cX6_isAhead 11 = .ok (.iload_n 1, 1) := by decide +kernel
theorem dX6_isAhead_12 : decode cX6_isAhead 12 = .ok (.iaload, 1) := by decide +kernel
theorem dX6_isAhead_13 : decode cX6_isAhead 13 = .ok (.i2l, 1) := by decide +kernel
theorem dX6_isAhead_14 : decode cX6_isAhead 14 = .ok (.iconst 5, 1) := by decide +kernel
theorem dX6_isAhead_15 : decode cX6_isAhead 15 = .ok (.lshl, 1) := by decide +kernel
theorem dX6_isAhead_16 : decode cX6_isAhead 16 = .ok (.lor, 1) := by decide +kernel
theorem dX6_isAhead_17 : decode cX6_isAhead 17 = .ok (.lstore_n 3, 1) := by decide +kernel
theorem dX6_isAhead_18 : decode cX6_isAhead 18 = .ok (.aload_n 0, 1) := by decide +kernel
theorem dX6_isAhead_19 : decode cX6_isAhead 19 = .ok (.getfield 36, 3) := by decide +kernel
theorem dX6_isAhead_22 : decode cX6_isAhead 22 = .ok (.iload_n 2, 1) := by decide +kernel
theorem dX6_isAhead_23 : decode cX6_isAhead 23 = .ok (.iaload, 1) := by decide +kernel
theorem dX6_isAhead_24 : decode cX6_isAhead 24 = .ok (.i2l, 1) := by decide +kernel
theorem dX6_isAhead_25 : decode cX6_isAhead 25 = .ok (.aload_n 0, 1) := by decide +kernel
theorem dX6_isAhead_26 : decode cX6_isAhead 26 = .ok (.getfield 39, 3) := by decide +kernel
theorem dX6_isAhead_29 : decode cX6_isAhead 29 = .ok (.iload_n 2, 1) := by decide +kernel
theorem dX6_isAhead_30 : decode cX6_isAhead 30 = .ok (.iaload, 1) := by decide +kernel
theorem dX6_isAhead_31 : decode cX6_isAhead 31 = .ok (.i2l, 1) := by decide +kernel
theorem dX6_isAhead_32 : decode cX6_isAhead 32 = .ok (.iconst 5, 1) := by decide +kernel
theorem dX6_isAhead_33 : decode cX6_isAhead 33 = .ok (.lshl, 1) := by decide +kernel
theorem dX6_isAhead_34 : decode cX6_isAhead 34 = .ok (.lor, 1) := by decide +kernel
theorem dX6_isAhead_35 : decode cX6_isAhead 35 = .ok (.lstore 5, 2) := by decide +kernel
theorem dX6_isAhead_37 : decode cX6_isAhead 37 = .ok (.aload_n 0, 1) := by decide +kernel
theorem dX6_isAhead_38 : decode cX6_isAhead 38 = .ok (.getfield 32, 3) := by decide +kernel
theorem dX6_isAhead_41 : decode cX6_isAhead 41 = .ok (.iload_n 1, 1) := by decide +kernel
theorem dX6_isAhead_42 : decode cX6_isAhead 42 = .ok (.laload, 1) := by decide +kernel
theorem dX6_isAhead_43 : decode cX6_isAhead 43 = .ok (.aload_n 0, 1) := by decide +kernel
theorem dX6_isAhead_44 : decode cX6_isAhead 44 = .ok (.getfield 32, 3) := by decide +kernel
theorem dX6_isAhead_47 : decode cX6_isAhead 47 = .ok (.iload_n 2, 1) := by decide +kernel
theorem dX6_isAhead_48 : decode cX6_isAhead 48 = .ok (.laload, 1) := by decide +kernel
theorem dX6_isAhead_49 : decode cX6_isAhead 49 = .ok (.lcmp, 1) := by decide +kernel
theorem dX6_isAhead_50 : decode cX6_isAhead 50 = .ok (.ifCond .lt 38, 3) := by decide +kernel
theorem dX6_isAhead_53 : decode cX6_isAhead 53 = .ok (.aload_n 0, 1) := by decide +kernel
theorem dX6_isAhead_54 : decode cX6_isAhead 54 = .ok (.getfield 32, 3) := by decide +kernel
theorem dX6_isAhead_57 : decode cX6_isAhead 57 = .ok (.iload_n 1, 1) := by decide +kernel
theorem dX6_isAhead_58 : decode cX6_isAhead 58 = .ok (.laload, 1) := by decide +kernel
theorem dX6_isAhead_59 : decode cX6_isAhead 59 = .ok (.aload_n 0, 1) := by decide +kernel
theorem dX6_isAhead_60 : decode cX6_isAhead 60 = .ok (.getfield 32, 3) := by decide +kernel
theorem dX6_isAhead_63 : decode cX6_isAhead 63 = .ok (.iload_n 2, 1) := by decide +kernel
theorem dX6_isAhead_64 : decode cX6_isAhead 64 = .ok (.laload, 1) := by decide +kernel
theorem dX6_isAhead_65 : decode cX6_isAhead 65 = .ok (.lcmp, 1) := by decide +kernel
theorem dX6_isAhead_66 : decode cX6_isAhead 66 = .ok (.ifCond .ne 26, 3) := by decide +kernel
theorem dX6_isAhead_69 : decode cX6_isAhead 69 = .ok (.lload_n 3, 1) := by decide +kernel
theorem dX6_isAhead_70 : decode cX6_isAhead 70 = .ok (.lload 5, 2) := by decide +kernel
theorem dX6_isAhead_72 : decode cX6_isAhead 72 = .ok (.lcmp, 1) := by decide +kernel
theorem dX6_isAhead_73 : decode cX6_isAhead 73 = .ok (.ifCond .lt 15, 3) := by decide +kernel
theorem dX6_isAhead_76 : decode cX6_isAhead 76 = .ok (.lload_n 3, 1) := by decide +kernel
theorem dX6_isAhead_77 : decode cX6_isAhead 77 = .ok (.lload 5, 2) := by decide +kernel
theorem dX6_isAhead_79 : decode cX6_isAhead 79 = .ok (.lcmp, 1) := by decide +kernel
theorem dX6_isAhead_80 : decode cX6_isAhead 80 = .ok (.ifCond .ne 12, 3) := by decide +kernel
theorem dX6_isAhead_83 : decode cX6_isAhead 83 = .ok (.iload_n 1, 1) := by decide +kernel
theorem dX6_isAhead_84 : decode cX6_isAhead 84 = .ok (.iload_n 2, 1) := by decide +kernel
theorem dX6_isAhead_85 : decode cX6_isAhead 85 = .ok (.if_icmp .ge 7, 3) := by decide +kernel
theorem dX6_isAhead_88 : decode cX6_isAhead 88 = .ok (.iconst 1, 1) := by decide +kernel
theorem dX6_isAhead_89 : decode cX6_isAhead 89 = .ok (.goto 4, 3) := by decide +kernel
theorem dX6_isAhead_92 : decode cX6_isAhead 92 = .ok (.iconst 0, 1) := by decide +kernel
theorem dX6_isAhead_93 : decode cX6_isAhead 93 = .ok (.ireturn, 1) := by decide +kernel
theorem dX6_sort_0 : decode cX6_sort 0 = .ok (.aload_n 0, 1) := by decide +kernel
theorem dX6_sort_1 : decode cX6_sort 1 = .ok (.aload_n 1, 1) := by decide +kernel
theorem dX6_sort_2 : decode cX6_sort 2 = .ok (.iload_n 2, 1) := by decide +kernel
theorem dX6_sort_3 : decode cX6_sort 3 = .ok (.invokevirtual 79, 3) := by decide +kernel
theorem dX6_sort_6 : decode cX6_sort 6 = .ok (.lconst 0, 1) := by decide +kernel
theorem dX6_sort_7 : decode cX6_sort 7 = .ok (.lstore_n 3, 1) := by decide +kernel
theorem dX6_sort_8 : decode cX6_sort 8 = .ok (.iconst 0, 1) := by decide +kernel
theorem dX6_sort_9 : decode cX6_sort 9 = .ok (.istore 5, 2) := by decide +kernel
theorem dX6_sort_11 : decode cX6_sort 11 = .ok (.iload 5, 2) := by decide +kernel
theorem dX6_sort_13 : decode cX6_sort 13 = .ok (.aload_n 0, 1) := by decide +kernel
theorem dX6_sort_14 : decode cX6_sort 14 = .ok (.getfield 25, 3) := by decide +kernel
theorem dX6_sort_17 : decode cX6_sort 17 = .ok (.iconst 2, 1) := by decide +kernel
theorem dX6_sort_18 : decode cX6_sort 18 = .ok (.iaload, 1) := by decide +kernel
theorem dX6_sort_19 : decode cX6_sort 19 = .ok (.if_icmp .ge 94, 3) := by decide +kernel
theorem dX6_sort_22 : decode cX6_sort 22 = .ok (.iconst 0, 1) := by decide +kernel
theorem dX6_sort_23 : decode cX6_sort 23 = .ok (.istore 6, 2) := by decide +kernel
theorem dX6_sort_25 : decode cX6_sort 25 = .ok (.iconst 0, 1) := by decide +kernel
theorem dX6_sort_26 : decode cX6_sort 26 = .ok (.istore 7, 2) := by decide +kernel
theorem dX6_sort_28 : decode cX6_sort 28 = .ok (.iload 7, 2) := by decide +kernel
theorem dX6_sort_30 : decode cX6_sort 30 = .ok (.aload_n 0, 1) := by decide +kernel
theorem dX6_sort_31 : decode cX6_sort 31 = .ok (.getfield 25, 3) := by decide +kernel
theorem dX6_sort_34 : decode cX6_sort 34 = .ok (.iconst 2, 1) := by decide +kernel
theorem dX6_sort_35 : decode cX6_sort 35 = .ok (.iaload, 1) := by decide +kernel
theorem dX6_sort_36 : decode cX6_sort 36 = .ok (.if_icmp .ge 30, 3) := by decide +kernel
theorem dX6_sort_39 : decode cX6_sort 39 = .ok (.iload 6, 2) := by decide +kernel
theorem dX6_sort_41 : decode cX6_sort 41 = .ok (.aload_n 0, 1) := by decide +kernel
theorem dX6_sort_42 : decode cX6_sort 42 = .ok (.iload 7, 2) := by decide +kernel
theorem dX6_sort_44 : decode cX6_sort 44 = .ok (.iload 5, 2) := by decide +kernel
theorem dX6_sort_46 : decode cX6_sort 46 = .ok (.invokevirtual 225, 3) := by decide +kernel
theorem dX6_sort_49 : decode cX6_sort 49 = .ok (.ifCond .eq 7, 3) := by decide +kernel
theorem dX6_sort_52 : decode cX6_sort 52 = .ok (.iconst 1, 1) := by decide +kernel
theorem dX6_sort_53 : decode cX6_sort 53 = .ok (.goto 4, 3) := by decide +kernel
theorem dX6_sort_56 : decode cX6_sort 56 = .ok (.iconst 0, 1) := by decide +kernel
theorem dX6_sort_57 : decode cX6_sort 57 = .ok (.iadd, 1) := by decide +kernel
theorem dX6_sort_58 : decode cX6_sort 58 = .ok (.istore 6, 2) := by decide +kernel
theorem dX6_sort_60 : decode cX6_sort 60 = .ok (.iinc 7 1, 3) := by decide +kernel
theorem dX6_sort_63 : decode cX6_sort 63 = .ok (.goto (-35), 3) := by decide +kernel
theorem dX6_sort_66 : decode cX6_sort 66 = .ok (.aload_n 0, 1) := by decide +kernel
theorem dX6_sort_67 : decode cX6_sort 67 = .ok (.getfield 69, 3) := by decide +kernel
theorem dX6_sort_70 : decode cX6_sort 70 = .ok (.iload 6, 2) := by decide +kernel
theorem dX6_sort_72 : decode cX6_sort 72 = .ok (.aload_n 0, 1) := by decide +kernel
theorem dX6_sort_73 : decode cX6_sort 73 = .ok (.getfield 32, 3) := by decide +kernel
theorem dX6_sort_76 : decode cX6_sort 76 = .ok (.iload 5, 2) := by decide +kernel
theorem dX6_sort_78 : decode cX6_sort 78 = .ok (.laload, 1) := by decide +kernel
theorem dX6_sort_79 : decode cX6_sort 79 = .ok (.lastore, 1) := by decide +kernel
theorem dX6_sort_80 : decode cX6_sort 80 = .ok (.lload_n 3, 1) := by decide +kernel
theorem dX6_sort_81 : decode cX6_sort 81 = .ok (.aload_n 0, 1) := by decide +kernel
theorem dX6_sort_82 : decode cX6_sort 82 = .ok (.getfield 36, 3) := by decide +kernel
theorem dX6_sort_85 : decode cX6_sort 85 = .ok (.iload 5, 2) := by decide +kernel
theorem dX6_sort_87 : decode cX6_sort 87 = .ok (.iaload, 1) := by decide +kernel
theorem dX6_sort_88 : decode cX6_sort 88 = .ok (.aload_n 0, 1) := by decide +kernel
theorem dX6_sort_89 : decode cX6_sort 89 = .ok (.getfield 39, 3) := by decide +kernel
theorem dX6_sort_92 : decode cX6_sort 92 = .ok (.iload 5, 2) := by decide +kernel
theorem dX6_sort_94 : decode cX6_sort 94 = .ok (.iaload, 1) := by decide +kernel
theorem dX6_sort_95 : decode cX6_sort 95 = .ok (.iconst 5, 1) := by decide +kernel
theorem dX6_sort_96 : decode cX6_sort 96 = .ok (.ishl, 1) := by decide +kernel
theorem dX6_sort_97 : decode cX6_sort 97 = .ok (.ior, 1) := by decide +kernel
theorem dX6_sort_98 : decode cX6_sort 98 = .ok (.i2l, 1) := by decide +kernel
theorem dX6_sort_99 : decode cX6_sort 99 = .ok (.bipush 10, 2) := by decide +kernel
theorem dX6_sort_101 : decode cX6_sort 101 = .ok (.iload 6, 2) := by decide +kernel
theorem dX6_sort_103 : decode cX6_sort 103 = .ok (.imul, 1) := by decide +kernel
theorem dX6_sort_104 : decode cX6_sort 104 = .ok (.lshl, 1) := by decide +kernel
theorem dX6_sort_105 : decode cX6_sort 105 = .ok (.lor, 1) := by decide +kernel
theorem dX6_sort_106 : decode cX6_sort 106 = .ok (.lstore_n 3, 1) := by decide +kernel
theorem dX6_sort_107 : decode cX6_sort 107 = .ok (.iinc 5 1, 3) := by decide +kernel
theorem dX6_sort_110 : decode cX6_sort 110 = .ok (.goto (-99), 3) := by decide +kernel
theorem dX6_sort_113 : decode cX6_sort 113 = .ok (.iconst 0, 1) := by decide +kernel
theorem dX6_sort_114 : decode cX6_sort 114 = .ok (.istore 5, 2) := by decide +kernel
theorem dX6_sort_116 : decode cX6_sort 116 = .ok (.iload 5, 2) := by decide +kernel
theorem dX6_sort_118 : decode cX6_sort 118 = .ok (.aload_n 0, 1) := by decide +kernel
theorem dX6_sort_119 : decode cX6_sort 119 = .ok (.getfield 25, 3) := by decide +kernel
theorem dX6_sort_122 : decode cX6_sort 122 = .ok (.iconst 2, 1) := by decide +kernel
theorem dX6_sort_123 : decode cX6_sort 123 = .ok (.iaload, 1) := by decide +kernel
theorem dX6_sort_124 : decode cX6_sort 124 = .ok (.if_icmp .ge 22, 3) := by decide +kernel
theorem dX6_sort_127 : decode cX6_sort 127 = .ok (.aload_n 1, 1) := by decide +kernel
theorem dX6_sort_128 : decode cX6_sort 128 = .ok (.iload_n 2, 1) := by decide +kernel
theorem dX6_sort_129 : decode cX6_sort 129 = .ok (.iload 5, 2) := by decide +kernel
theorem dX6_sort_131 : decode cX6_sort 131 = .ok (.iadd, 1) := by decide +kernel
theorem dX6_sort_132 : decode cX6_sort 132 = .ok (.aload_n 0, 1) := by decide +kernel
theorem dX6_sort_133 : decode cX6_sort 133 = .ok (.getfield 69, 3) := by decide +kernel
theorem dX6_sort_136 : decode cX6_sort 136 = .ok (.iload 5, 2) := by decide +kernel
theorem dX6_sort_138 : decode cX6_sort 138 = .ok (.laload, 1) := by decide +kernel
theorem dX6_sort_139 : decode cX6_sort 139 = .ok (.lastore, 1) := by decide +kernel
theorem dX6_sort_140 : decode cX6_sort 140 = .ok (.iinc 5 1, 3) := by decide +kernel
theorem dX6_sort_143 : decode cX6_sort 143 = .ok (.goto (-27), 3) := by decide +kernel
theorem dX6_sort_146 : decode cX6_sort 146 = .ok (.aload_n 1, 1) := by decide +kernel
theorem dX6_sort_147 : decode cX6_sort 147 = .ok (.iload_n 2, 1) := by decide +kernel
theorem dX6_sort_148 : decode cX6_sort 148 = .ok (.iconst 5, 1) := by decide +kernel
theorem dX6_sort_149 : decode cX6_sort 149 = .ok (.iadd, 1) := by decide +kernel
theorem dX6_sort_150 : decode cX6_sort 150 = .ok (.lload_n 3, 1) := by decide +kernel
theorem dX6_sort_151 : decode cX6_sort 151 = .ok (.lastore, 1) := by decide +kernel
theorem dX6_sort_152 : decode cX6_sort 152 = .ok (.aload_n 0, 1) := by decide +kernel
theorem dX6_sort_153 : decode cX6_sort 153 = .ok (.getfield 42, 3) := by decide +kernel
theorem dX6_sort_156 : decode cX6_sort 156 = .ok (.iconst 0, 1) := by decide +kernel
theorem dX6_sort_157 : decode cX6_sort 157 = .ok (.iaload, 1) := by decide +kernel
theorem dX6_sort_158 : decode cX6_sort 158 = .ok (.aload_n 0, 1) := by decide +kernel
theorem dX6_sort_159 : decode cX6_sort 159 = .ok (.getfield 42, 3) := by decide +kernel
theorem dX6_sort_162 : decode cX6_sort 162 = .ok (.iconst 1, 1) := by decide +kernel
theorem dX6_sort_163 : decode cX6_sort 163 = .ok (.iaload, 1) := by decide +kernel
theorem dX6_sort_164 : decode cX6_sort 164 = .ok (.if_icmp .ge 13, 3) := by decide +kernel
theorem dX6_sort_167 : decode cX6_sort 167 = .ok (.aload_n 0, 1) := by decide +kernel
theorem dX6_sort_168 : decode cX6_sort 168 = .ok (.getfield 42, 3) := by decide +kernel
theorem dX6_sort_171 : decode cX6_sort 171 = .ok (.iconst 0, 1) := by decide +kernel
theorem dX6_sort_172 : decode cX6_sort 172 = .ok (.iaload, 1) := by decide +kernel
theorem dX6_sort_173 : decode cX6_sort 173 = .ok (.i2l, 1) := by decide +kernel
theorem dX6_sort_174 : decode cX6_sort 174 = .ok (.goto 10, 3) := by decide +kernel
theorem dX6_sort_177 : decode cX6_sort 177 = .ok (.aload_n 0, 1) := by decide +kernel
theorem dX6_sort_178 : decode cX6_sort 178 = .ok (.getfield 42, 3) := by decide +kernel
theorem dX6_sort_181 : decode cX6_sort 181 = .ok (.iconst 1, 1) := by decide +kernel
theorem dX6_sort_182 : decode cX6_sort 182 = .ok (.iaload, 1) := by decide +kernel
theorem dX6_sort_183 : decode cX6_sort 183 = .ok (.i2l, 1) := by decide +kernel
theorem dX6_sort_184 : decode cX6_sort 184 = .ok (.lstore 5, 2) := by decide +kernel
theorem dX6_sort_186 : decode cX6_sort 186 = .ok (.aload_n 0, 1) := by decide +kernel
theorem dX6_sort_187 : decode cX6_sort 187 = .ok (.getfield 42, 3) := by decide +kernel
theorem dX6_sort_190 : decode cX6_sort 190 = .ok (.iconst 0, 1) := by decide +kernel
theorem dX6_sort_191 : decode cX6_sort 191 = .ok (.iaload, 1) := by decide +kernel
theorem dX6_sort_192 : decode cX6_sort 192 = .ok (.aload_n 0, 1) := by decide +kernel
theorem dX6_sort_193 : decode cX6_sort 193 = .ok (.getfield 42, 3) := by decide +kernel
theorem dX6_sort_196 : decode cX6_sort 196 = .ok (.iconst 1, 1) := by decide +kernel
theorem dX6_sort_197 : decode cX6_sort 197 = .ok (.iaload, 1) := by decide +kernel
theorem dX6_sort_198 : decode cX6_sort 198 = .ok (.if_icmp .ge 13, 3) := by decide +kernel
theorem dX6_sort_201 : decode cX6_sort 201 = .ok (.aload_n 0, 1) := by decide +kernel
theorem dX6_sort_202 : decode cX6_sort 202 = .ok (.getfield 42, 3) := by decide +kernel
theorem dX6_sort_205 : decode cX6_sort 205 = .ok (.iconst 1, 1) := by decide +kernel
theorem dX6_sort_206 : decode cX6_sort 206 = .ok (.iaload, 1) := by decide +kernel
theorem dX6_sort_207 : decode cX6_sort 207 = .ok (.i2l, 1) := by decide +kernel
theorem dX6_sort_208 : decode cX6_sort 208 = .ok (.goto 10, 3) := by decide +kernel
theorem dX6_sort_211 : decode cX6_sort 211 = .ok (.aload_n 0, 1) := by decide +kernel
theorem dX6_sort_212 : decode cX6_sort 212 = .ok (.getfield 42, 3) := by decide +kernel
theorem dX6_sort_215 : decode cX6_sort 215 = .ok (.iconst 0, 1) := by decide +kernel
theorem dX6_sort_216 : decode cX6_sort 216 = .ok (.iaload, 1) := by decide +kernel
theorem dX6_sort_217 : decode cX6_sort 217 = .ok (.i2l, 1) := by decide +kernel
theorem dX6_sort_218 : decode cX6_sort 218 = .ok (.lstore 7, 2) := by decide +kernel
theorem dX6_sort_220 : decode cX6_sort 220 = .ok (.aload_n 1, 1) := by decide +kernel
theorem dX6_sort_221 : decode cX6_sort 221 = .ok (.iload_n 2, 1) := by decide +kernel
theorem dX6_sort_222 : decode cX6_sort 222 = .ok (.bipush 6, 2) := by decide +kernel
theorem dX6_sort_224 : decode cX6_sort 224 = .ok (.iadd, 1) := by decide +kernel
theorem dX6_sort_225 : decode cX6_sort 225 = .ok (.aload_n 1, 1) := by decide +kernel
theorem dX6_sort_226 : decode cX6_sort 226 = .ok (.iload_n 2, 1) := by decide +kernel
theorem dX6_sort_227 : decode cX6_sort 227 = .ok (.bipush 6, 2) := by decide +kernel
theorem dX6_sort_229 : decode cX6_sort 229 = .ok (.iadd, 1) := by decide +kernel
theorem dX6_sort_230 : decode cX6_sort 230 = .ok (.laload, 1) := by decide +kernel
theorem dX6_sort_231 : decode cX6_sort 231 = .ok (.bipush 10, 2) := by decide +kernel
theorem dX6_sort_233 : decode cX6_sort 233 = .ok (.lushr, 1) := by decide +kernel
theorem dX6_sort_234 : decode cX6_sort 234 = .ok (.bipush 10, 2) := by decide +kernel
theorem dX6_sort_236 : decode cX6_sort 236 = .ok (.lshl, 1) := by decide +kernel
theorem dX6_sort_237 : decode cX6_sort 237 = .ok (.lload 5, 2) := by decide +kernel
theorem dX6_sort_239 : decode cX6_sort 239 = .ok (.lconst 1, 1) := by decide +kernel
theorem dX6_sort_240 : decode cX6_sort 240 = .ok (.ladd, 1) := by decide +kernel
theorem dX6_sort_241 : decode cX6_sort 241 = .ok (.lor, 1) := by decide +kernel
theorem dX6_sort_242 : decode cX6_sort 242 = .ok (.lload 7, 2) := by decide +kernel
theorem dX6_sort_244 : decode cX6_sort 244 = .ok (.lconst 1, 1) := by decide +kernel
theorem dX6_sort_245 : decode cX6_sort 245 = .ok (.ladd, 1) := by decide +kernel
theorem dX6_sort_246 : decode cX6_sort 246 = .ok (.iconst 5, 1) := by decide +kernel
theorem dX6_sort_247 : decode cX6_sort 247 = .ok (.lshl, 1) := by decide +kernel
theorem dX6_sort_248 : decode cX6_sort 248 = .ok (.lor, 1) := by decide +kernel
theorem dX6_sort_249 : decode cX6_sort 249 = .ok (.lastore, 1) := by decide +kernel
theorem dX6_sort_250 : decode cX6_sort 250 = .ok (.return_, 1) := by decide +kernel
theorem dX6_isKnown_0 : decode cX6_isKnown 0 = .ok (.aload_n 0, 1) := by decide +kernel
theorem dX6_isKnown_1 : decode cX6_isKnown 1 = .ok (.aload_n 0, 1) := by decide +kernel
theorem dX6_isKnown_2 : decode cX6_isKnown 2 = .ok (.getfield 63, 3) := by decide +kernel
theorem dX6_isKnown_5 : decode cX6_isKnown 5 = .ok (.bipush 8, 2) := by decide +kernel
theorem dX6_isKnown_7 : decode cX6_isKnown 7 = .ok (.aload_n 0, 1) := by decide +kernel
theorem dX6_isKnown_8 : decode cX6_isKnown 8 = .ok (.getfield 228, 3) := by decide +kernel
theorem dX6_isKnown_11 : decode cX6_isKnown 11 = .ok (.imul, 1) := by decide +kernel
theorem dX6_isKnown_12 : decode cX6_isKnown 12 = .ok (.invokevirtual 231, 3) := by decide +kernel
theorem dX6_isKnown_15 : decode cX6_isKnown 15 = .ok (.iconst 0, 1) := by decide +kernel
theorem dX6_isKnown_16 : decode cX6_isKnown 16 = .ok (.istore_n 1, 1) := by decide +kernel
theorem dX6_isKnown_17 : decode cX6_isKnown 17 = .ok (.iload_n 1, 1) := by decide +kernel
theorem dX6_isKnown_18 : decode cX6_isKnown 18 = .ok (.aload_n 0, 1) := by decide +kernel
theorem dX6_isKnown_19 : decode cX6_isKnown 19 = .ok (.getfield 228, 3) := by decide +kernel
theorem dX6_isKnown_22 : decode cX6_isKnown 22 = .ok (.if_icmp .ge 70, 3) := by decide +kernel
theorem dX6_isKnown_25 : decode cX6_isKnown 25 = .ok (.iconst 1, 1) := by decide +kernel
theorem dX6_isKnown_26 : decode cX6_isKnown 26 = .ok (.istore_n 2, 1) := by decide +kernel
theorem dX6_isKnown_27 : decode cX6_isKnown 27 = .ok (.iconst 0, 1) := by decide +kernel
theorem dX6_isKnown_28 : decode cX6_isKnown 28 = .ok (.istore_n 3, 1) := by decide +kernel
theorem dX6_isKnown_29 : decode cX6_isKnown 29 = .ok (.iload_n 3, 1) := by decide +kernel
theorem dX6_isKnown_30 : decode cX6_isKnown 30 = .ok (.bipush 8, 2) := by decide +kernel
theorem dX6_isKnown_32 : decode cX6_isKnown 32 = .ok (.if_icmp .ge 48, 3) := by decide +kernel
theorem dX6_isKnown_35 : decode cX6_isKnown 35 = .ok (.iload_n 2, 1) := by decide +kernel
theorem dX6_isKnown_36 : decode cX6_isKnown 36 = .ok (.ifCond .eq 44, 3) := by decide +kernel
theorem dX6_isKnown_39 : decode cX6_isKnown 39 = .ok (.aload_n 0, 1) := by decide +kernel
theorem dX6_isKnown_40 : decode cX6_isKnown 40 = .ok (.getfield 63, 3) := by decide +kernel
theorem dX6_isKnown_43 : decode cX6_isKnown 43 = .ok (.bipush 8, 2) := by decide +kernel
theorem dX6_isKnown_45 : decode cX6_isKnown 45 = .ok (.iload_n 1, 1) := by decide +kernel
theorem dX6_isKnown_46 : decode cX6_isKnown 46 = .ok (.imul, 1) := by decide +kernel
theorem dX6_isKnown_47 : decode cX6_isKnown 47 = .ok (.iload_n 3, 1) := by decide +kernel
theorem dX6_isKnown_48 : decode cX6_isKnown 48 = .ok (.iadd, 1) := by decide +kernel
theorem dX6_isKnown_49 : decode cX6_isKnown 49 = .ok (.laload, 1) := by decide +kernel
theorem dX6_isKnown_50 : decode cX6_isKnown 50 = .ok (.aload_n 0, 1) := by decide +kernel
theorem dX6_isKnown_51 : decode cX6_isKnown 51 = .ok (.getfield 63, 3) := by decide +kernel
theorem dX6_isKnown_54 : decode cX6_isKnown 54 = .ok (.bipush 8, 2) := by decide +kernel
theorem dX6_isKnown_56 : decode cX6_isKnown 56 = .ok (.aload_n 0, 1) := by decide +kernel
theorem dX6_isKnown_57 : decode cX6_isKnown 57 = .ok (.getfield 228, 3) := by decide +kernel
theorem dX6_isKnown_60 : decode cX6_isKnown 60 = .ok (.imul, 1) := by decide +kernel
theorem dX6_isKnown_61 : decode cX6_isKnown 61 = .ok (.iload_n 3, 1) := by decide +kernel
theorem dX6_isKnown_62 : decode cX6_isKnown 62 = .ok (.iadd, 1) := by decide +kernel
theorem dX6_isKnown_63 : decode cX6_isKnown 63 = .ok (.laload, 1) := by decide +kernel
theorem dX6_isKnown_64 : decode cX6_isKnown 64 = .ok (.lcmp, 1) := by decide +kernel
theorem dX6_isKnown_65 : decode cX6_isKnown 65 = .ok (.ifCond .ne 7, 3) := by decide +kernel
theorem dX6_isKnown_68 : decode cX6_isKnown 68 = .ok (.iconst 1, 1) := by decide +kernel
theorem dX6_isKnown_69 : decode cX6_isKnown 69 = .ok (.goto 4, 3) := by decide +kernel
theorem dX6_isKnown_72 : decode cX6_isKnown 72 = .ok (.iconst 0, 1) := by decide +kernel
theorem dX6_isKnown_73 : decode cX6_isKnown 73 = .ok (.istore_n 2, 1) := by decide +kernel
theorem dX6_isKnown_74 : decode cX6_isKnown 74 = .ok (.iinc 3 1, 3) := by decide +kernel
theorem dX6_isKnown_77 : decode cX6_isKnown 77 = .ok (.goto (-48), 3) := by decide +kernel
theorem dX6_isKnown_80 : decode cX6_isKnown 80 = .ok (.iload_n 2, 1) := by decide +kernel
theorem dX6_isKnown_81 : decode cX6_isKnown 81 = .ok (.ifCond .eq 5, 3) := by decide +kernel
theorem dX6_isKnown_84 : decode cX6_isKnown 84 = .ok (.iconst 1, 1) := by decide +kernel
theorem dX6_isKnown_85 : decode cX6_isKnown 85 = .ok (.ireturn, 1) := by decide +kernel
theorem dX6_isKnown_86 : decode cX6_isKnown 86 = .ok (.iinc 1 1, 3) := by decide +kernel
theorem dX6_isKnown_89 : decode cX6_isKnown 89 = .ok (.goto (-72), 3) := by decide +kernel
theorem dX6_isKnown_92 : decode cX6_isKnown 92 = .ok (.iconst 0, 1) := by decide +kernel
theorem dX6_isKnown_93 : decode cX6_isKnown 93 = .ok (.ireturn, 1) := by decide +kernel
theorem dX6_learn_0 : decode cX6_learn 0 = .ok (.aload_n 0, 1) := by decide +kernel
theorem dX6_learn_1 : decode cX6_learn 1 = .ok (.iload_n 2, 1) := by decide +kernel
theorem dX6_learn_2 : decode cX6_learn 2 = .ok (.iload_n 3, 1) := by decide +kernel
theorem dX6_learn_3 : decode cX6_learn 3 = .ok (.iload 4, 2) := by decide +kernel
theorem dX6_learn_5 : decode cX6_learn 5 = .ok (.invokevirtual 205, 3) := by decide +kernel
theorem dX6_learn_8 : decode cX6_learn 8 = .ok (.iconst 0, 1) := by decide +kernel
theorem dX6_learn_9 : decode cX6_learn 9 = .ok (.istore 6, 2) := by decide +kernel
theorem dX6_learn_11 : decode cX6_learn 11 = .ok (.aload_n 0, 1) := by decide +kernel
theorem dX6_learn_12 : decode cX6_learn 12 = .ok (.invokevirtual 234, 3) := by decide +kernel
theorem dX6_learn_15 : decode cX6_learn 15 = .ok (.ifCond .ne 61, 3) := by decide +kernel
theorem dX6_learn_18 : decode cX6_learn 18 = .ok (.aload_n 0, 1) := by decide +kernel
theorem dX6_learn_19 : decode cX6_learn 19 = .ok (.getfield 228, 3) := by decide +kernel
theorem dX6_learn_22 : decode cX6_learn 22 = .ok (.iload 5, 2) := by decide +kernel
theorem dX6_learn_24 : decode cX6_learn 24 = .ok (.if_icmp .ne 7, 3) := by decide +kernel
theorem dX6_learn_27 : decode cX6_learn 27 = .ok (.iconst 2, 1) := by decide +kernel
theorem dX6_learn_28 : decode cX6_learn 28 = .ok (.goto 15, 3) := by decide +kernel
theorem dX6_learn_31 : decode cX6_learn 31 = .ok (.aload_n 0, 1) := by decide +kernel
theorem dX6_learn_32 : decode cX6_learn 32 = .ok (.invokevirtual 221, 3) := by decide +kernel
theorem dX6_learn_35 : decode cX6_learn 35 = .ok (.ifCond .eq 7, 3) := by decide +kernel
theorem dX6_learn_38 : decode cX6_learn 38 = .ok (.iconst 1, 1) := by decide +kernel
theorem dX6_learn_39 : decode cX6_learn 39 = .ok (.goto 4, 3) := by decide +kernel
theorem dX6_learn_42 : decode cX6_learn 42 = .ok (.iconst 0, 1) := by decide +kernel
theorem dX6_learn_43 : decode cX6_learn 43 = .ok (.istore 6, 2) := by decide +kernel
theorem dX6_learn_45 : decode cX6_learn 45 = .ok (.iload 6, 2) := by decide +kernel
theorem dX6_learn_47 : decode cX6_learn 47 = .ok (.iconst 2, 1) := by decide +kernel
theorem dX6_learn_48 : decode cX6_learn 48 = .ok (.if_icmp .ge 28, 3) := by decide +kernel
theorem dX6_learn_51 : decode cX6_learn 51 = .ok (.aload_n 0, 1) := by decide +kernel
theorem dX6_learn_52 : decode cX6_learn 52 = .ok (.aload_n 0, 1) := by decide +kernel
theorem dX6_learn_53 : decode cX6_learn 53 = .ok (.getfield 60, 3) := by decide +kernel
theorem dX6_learn_56 : decode cX6_learn 56 = .ok (.bipush 8, 2) := by decide +kernel
theorem dX6_learn_58 : decode cX6_learn 58 = .ok (.aload_n 0, 1) := by decide +kernel
theorem dX6_learn_59 : decode cX6_learn 59 = .ok (.getfield 228, 3) := by decide +kernel
theorem dX6_learn_62 : decode cX6_learn 62 = .ok (.imul, 1) := by decide +kernel
theorem dX6_learn_63 : decode cX6_learn 63 = .ok (.invokevirtual 79, 3) := by decide +kernel
theorem dX6_learn_66 : decode cX6_learn 66 = .ok (.aload_n 0, 1) := by decide +kernel
theorem dX6_learn_67 : decode cX6_learn 67 = .ok (.dup, 1) := by decide +kernel
theorem dX6_learn_68 : decode cX6_learn 68 = .ok (.getfield 228, 3) := by decide +kernel
theorem dX6_learn_71 : decode cX6_learn 71 = .ok (.iconst 1, 1) := by decide +kernel
theorem dX6_learn_72 : decode cX6_learn 72 = .ok (.iadd, 1) := by decide +kernel
theorem dX6_learn_73 : decode cX6_learn 73 = .ok (.putfield 228, 3) := by decide +kernel
theorem dX6_learn_76 : decode cX6_learn 76 = .ok (.aload_n 0, 1) := by decide +kernel
theorem dX6_learn_77 : decode cX6_learn 77 = .ok (.aload_n 0, 1) := by decide +kernel
theorem dX6_learn_78 : decode cX6_learn 78 = .ok (.getfield 60, 3) := by decide +kernel
theorem dX6_learn_81 : decode cX6_learn 81 = .ok (.bipush 8, 2) := by decide +kernel
theorem dX6_learn_83 : decode cX6_learn 83 = .ok (.iload_n 1, 1) := by decide +kernel
theorem dX6_learn_84 : decode cX6_learn 84 = .ok (.imul, 1) := by decide +kernel
theorem dX6_learn_85 : decode cX6_learn 85 = .ok (.invokevirtual 154, 3) := by decide +kernel
theorem dX6_learn_88 : decode cX6_learn 88 = .ok (.iload 6, 2) := by decide +kernel
theorem dX6_learn_90 : decode cX6_learn 90 = .ok (.ireturn, 1) := by decide +kernel
theorem dX6_goOn_0 : decode cX6_goOn 0 = .ok (.aload_n 0, 1) := by decide +kernel
theorem dX6_goOn_1 : decode cX6_goOn 1 = .ok (.aload_n 0, 1) := by decide +kernel
theorem dX6_goOn_2 : decode cX6_goOn 2 = .ok (.getfield 60, 3) := by decide +kernel
theorem dX6_goOn_5 : decode cX6_goOn 5 = .ok (.bipush 8, 2) := by decide +kernel
theorem dX6_goOn_7 : decode cX6_goOn 7 = .ok (.iload_n 1, 1) := by decide +kernel
theorem dX6_goOn_8 : decode cX6_goOn 8 = .ok (.imul, 1) := by decide +kernel
theorem dX6_goOn_9 : decode cX6_goOn 9 = .ok (.invokevirtual 154, 3) := by decide +kernel
theorem dX6_goOn_12 : decode cX6_goOn 12 = .ok (.iconst 0, 1) := by decide +kernel
theorem dX6_goOn_13 : decode cX6_goOn 13 = .ok (.istore_n 3, 1) := by decide +kernel
theorem dX6_goOn_14 : decode cX6_goOn 14 = .ok (.iload_n 3, 1) := by decide +kernel
theorem dX6_goOn_15 : decode cX6_goOn 15 = .ok (.sipush 1440, 3) := by decide +kernel
theorem dX6_goOn_18 : decode cX6_goOn 18 = .ok (.if_icmp .ge 105, 3) := by decide +kernel
theorem dX6_goOn_21 : decode cX6_goOn 21 = .ok (.iload_n 3, 1) := by decide +kernel
theorem dX6_goOn_22 : decode cX6_goOn 22 = .ok (.sipush 144, 3) := by decide +kernel
theorem dX6_goOn_25 : decode cX6_goOn 25 = .ok (.idiv, 1) := by decide +kernel
theorem dX6_goOn_26 : decode cX6_goOn 26 = .ok (.istore 4, 2) := by decide +kernel
theorem dX6_goOn_28 : decode cX6_goOn 28 = .ok (.iload_n 3, 1) := by decide +kernel
theorem dX6_goOn_29 : decode cX6_goOn 29 = .ok (.bipush 16, 2) := by decide +kernel
theorem dX6_goOn_31 : decode cX6_goOn 31 = .ok (.idiv, 1) := by decide +kernel
theorem dX6_goOn_32 : decode cX6_goOn 32 = .ok (.bipush 9, 2) := by decide +kernel
theorem dX6_goOn_34 : decode cX6_goOn 34 = .ok (.irem, 1) := by decide +kernel
theorem dX6_goOn_35 : decode cX6_goOn 35 = .ok (.istore 5, 2) := by decide +kernel
theorem dX6_goOn_37 : decode cX6_goOn 37 = .ok (.iload_n 3, 1) := by decide +kernel
theorem dX6_goOn_38 : decode cX6_goOn 38 = .ok (.bipush 16, 2) := by decide +kernel
theorem dX6_goOn_40 : decode cX6_goOn 40 = .ok (.irem, 1) := by decide +kernel
theorem dX6_goOn_41 : decode cX6_goOn 41 = .ok (.iconst 1, 1) := by decide +kernel
theorem dX6_goOn_42 : decode cX6_goOn 42 = .ok (.iadd, 1) := by decide +kernel
theorem dX6_goOn_43 : decode cX6_goOn 43 = .ok (.istore 6, 2) := by decide +kernel
theorem dX6_goOn_45 : decode cX6_goOn 45 = .ok (.iload 4, 2) := by decide +kernel
theorem dX6_goOn_47 : decode cX6_goOn 47 = .ok (.bipush 8, 2) := by decide +kernel
theorem dX6_goOn_49 : decode cX6_goOn 49 = .ok (.if_icmp .eq 25, 3) := by decide +kernel
theorem dX6_goOn_52 : decode cX6_goOn 52 = .ok (.iload 6, 2) := by decide +kernel
theorem dX6_goOn_54 : decode cX6_goOn 54 = .ok (.iconst 1, 1) := by decide +kernel
theorem dX6_goOn_55 : decode cX6_goOn 55 = .ok (.if_icmp .eq 15, 3) := by decide +kernel
theorem dX6_goOn_58 : decode cX6_goOn 58 = .ok (.iload 4, 2) := by decide +kernel
theorem dX6_goOn_60 : decode cX6_goOn 60 = .ok (.iconst 5, 1) := by decide +kernel
theorem dX6_goOn_61 : decode cX6_goOn 61 = .ok (.if_icmp .ge 13, 3) := by decide +kernel
theorem dX6_goOn_64 : decode cX6_goOn 64 = .ok (.iload 5, 2) := by decide +kernel
theorem dX6_goOn_66 : decode cX6_goOn 66 = .ok (.iconst 5, 1) := by decide +kernel
theorem dX6_goOn_67 : decode cX6_goOn 67 = .ok (.if_icmp .ge 7, 3) := by decide +kernel
theorem dX6_goOn_70 : decode cX6_goOn 70 = .ok (.iconst 1, 1) := by decide +kernel
theorem dX6_goOn_71 : decode cX6_goOn 71 = .ok (.goto 4, 3) := by decide +kernel
theorem dX6_goOn_74 : decode cX6_goOn 74 = .ok (.iconst 0, 1) := by decide +kernel
theorem dX6_goOn_75 : decode cX6_goOn 75 = .ok (.istore 7, 2) := by decide +kernel
theorem dX6_goOn_77 : decode cX6_goOn 77 = .ok (.iload 7, 2) := by decide +kernel
theorem dX6_goOn_79 : decode cX6_goOn 79 = .ok (.ifCond .eq 38, 3) := by decide +kernel
theorem dX6_goOn_82 : decode cX6_goOn 82 = .ok (.aload_n 0, 1) := by decide +kernel
theorem dX6_goOn_83 : decode cX6_goOn 83 = .ok (.iload 4, 2) := by decide +kernel
theorem dX6_goOn_85 : decode cX6_goOn 85 = .ok (.iload 5, 2) := by decide +kernel
theorem dX6_goOn_87 : decode cX6_goOn 87 = .ok (.iload 6, 2) := by decide +kernel
theorem dX6_goOn_89 : decode cX6_goOn 89 = .ok (.invokevirtual 209, 3) := by decide +kernel
theorem dX6_goOn_92 : decode cX6_goOn 92 = .ok (.ifCond .eq 25, 3) := by decide +kernel
theorem dX6_goOn_95 : decode cX6_goOn 95 = .ok (.aload_n 0, 1) := by decide +kernel
theorem dX6_goOn_96 : decode cX6_goOn 96 = .ok (.iload_n 1, 1) := by decide +kernel
theorem dX6_goOn_97 : decode cX6_goOn 97 = .ok (.iload 4, 2) := by decide +kernel
theorem dX6_goOn_99 : decode cX6_goOn 99 = .ok (.iload 5, 2) := by decide +kernel
theorem dX6_goOn_101 : decode cX6_goOn 101 = .ok (.iload 6, 2) := by decide +kernel
theorem dX6_goOn_103 : decode cX6_goOn 103 = .ok (.iload_n 2, 1) := by decide +kernel
theorem dX6_goOn_104 : decode cX6_goOn 104 = .ok (.invokevirtual 237, 3) := by decide +kernel
theorem dX6_goOn_107 : decode cX6_goOn 107 = .ok (.istore 8, 2) := by decide +kernel
theorem dX6_goOn_109 : decode cX6_goOn 109 = .ok (.iload 8, 2) := by decide +kernel
theorem dX6_goOn_111 : decode cX6_goOn 111 = .ok (.ifCond .le 6, 3) := by decide +kernel
theorem dX6_goOn_114 : decode cX6_goOn 114 = .ok (.iload 8, 2) := by decide +kernel
theorem dX6_goOn_116 : decode cX6_goOn 116 = .ok (.ireturn, 1) := by decide +kernel
theorem dX6_goOn_117 : decode cX6_goOn 117 = .ok (.iinc 3 1, 3) := by decide +kernel
theorem dX6_goOn_120 : decode cX6_goOn 120 = .ok (.goto (-106), 3) := by decide +kernel
theorem dX6_goOn_123 : decode cX6_goOn 123 = .ok (.iconst 0, 1) := by decide +kernel
theorem dX6_goOn_124 : decode cX6_goOn 124 = .ok (.ireturn, 1) := by decide +kernel
theorem dX6_look_0 : decode cX6_look 0 = .ok (.aload_n 0, 1) := by decide +kernel
theorem dX6_look_1 : decode cX6_look 1 = .ok (.iconst 1, 1) := by decide +kernel
theorem dX6_look_2 : decode cX6_look 2 = .ok (.putfield 228, 3) := by decide +kernel
theorem dX6_look_5 : decode cX6_look 5 = .ok (.aload_n 0, 1) := by decide +kernel
theorem dX6_look_6 : decode cX6_look 6 = .ok (.aload_n 0, 1) := by decide +kernel
theorem dX6_look_7 : decode cX6_look 7 = .ok (.getfield 60, 3) := by decide +kernel
theorem dX6_look_10 : decode cX6_look 10 = .ok (.iconst 0, 1) := by decide +kernel
theorem dX6_look_11 : decode cX6_look 11 = .ok (.invokevirtual 79, 3) := by decide +kernel
theorem dX6_look_14 : decode cX6_look 14 = .ok (.aload_n 0, 1) := by decide +kernel
theorem dX6_look_15 : decode cX6_look 15 = .ok (.aload_n 0, 1) := by decide +kernel
theorem dX6_look_16 : decode cX6_look 16 = .ok (.getfield 63, 3) := by decide +kernel
theorem dX6_look_19 : decode cX6_look 19 = .ok (.iconst 0, 1) := by decide +kernel
theorem dX6_look_20 : decode cX6_look 20 = .ok (.invokevirtual 231, 3) := by decide +kernel
theorem dX6_look_23 : decode cX6_look 23 = .ok (.aload_n 0, 1) := by decide +kernel
theorem dX6_look_24 : decode cX6_look 24 = .ok (.invokevirtual 221, 3) := by decide +kernel
theorem dX6_look_27 : decode cX6_look 27 = .ok (.ifCond .eq 7, 3) := by decide +kernel
theorem dX6_look_30 : decode cX6_look 30 = .ok (.iconst 0, 1) := by decide +kernel
theorem dX6_look_31 : decode cX6_look 31 = .ok (.goto 4, 3) := by decide +kernel
theorem dX6_look_34 : decode cX6_look 34 = .ok (.iconst (-1), 1) := by decide +kernel
theorem dX6_look_35 : decode cX6_look 35 = .ok (.istore_n 2, 1) := by decide +kernel
theorem dX6_look_36 : decode cX6_look 36 = .ok (.iconst 0, 1) := by decide +kernel
theorem dX6_look_37 : decode cX6_look 37 = .ok (.istore_n 3, 1) := by decide +kernel
theorem dX6_look_38 : decode cX6_look 38 = .ok (.iconst 1, 1) := by decide +kernel
theorem dX6_look_39 : decode cX6_look 39 = .ok (.istore 4, 2) := by decide +kernel
theorem dX6_look_41 : decode cX6_look 41 = .ok (.iload_n 2, 1) := by decide +kernel
theorem dX6_look_42 : decode cX6_look 42 = .ok (.iconst (-1), 1) := by decide +kernel
theorem dX6_look_43 : decode cX6_look 43 = .ok (.if_icmp .ne 75, 3) := by decide +kernel
theorem dX6_look_46 : decode cX6_look 46 = .ok (.iload_n 3, 1) := by decide +kernel
theorem dX6_look_47 : decode cX6_look 47 = .ok (.aload_n 0, 1) := by decide +kernel
theorem dX6_look_48 : decode cX6_look 48 = .ok (.getfield 228, 3) := by decide +kernel
theorem dX6_look_51 : decode cX6_look 51 = .ok (.if_icmp .ge 67, 3) := by decide +kernel
theorem dX6_look_54 : decode cX6_look 54 = .ok (.aload_n 0, 1) := by decide +kernel
theorem dX6_look_55 : decode cX6_look 55 = .ok (.getfield 228, 3) := by decide +kernel
theorem dX6_look_58 : decode cX6_look 58 = .ok (.istore 5, 2) := by decide +kernel
theorem dX6_look_60 : decode cX6_look 60 = .ok (.iconst 0, 1) := by decide +kernel
theorem dX6_look_61 : decode cX6_look 61 = .ok (.istore 6, 2) := by decide +kernel
theorem dX6_look_63 : decode cX6_look 63 = .ok (.iload_n 3, 1) := by decide +kernel
theorem dX6_look_64 : decode cX6_look 64 = .ok (.iload 5, 2) := by decide +kernel
theorem dX6_look_66 : decode cX6_look 66 = .ok (.if_icmp .ge 22, 3) := by decide +kernel
theorem dX6_look_69 : decode cX6_look 69 = .ok (.iload 6, 2) := by decide +kernel
theorem dX6_look_71 : decode cX6_look 71 = .ok (.ifCond .ne 17, 3) := by decide +kernel
theorem dX6_look_74 : decode cX6_look 74 = .ok (.aload_n 0, 1) := by decide +kernel
theorem dX6_look_75 : decode cX6_look 75 = .ok (.iload_n 3, 1) := by decide +kernel
theorem dX6_look_76 : decode cX6_look 76 = .ok (.iload_n 1, 1) := by decide +kernel
theorem dX6_look_77 : decode cX6_look 77 = .ok (.invokevirtual 241, 3) := by decide +kernel
theorem dX6_look_80 : decode cX6_look 80 = .ok (.istore 6, 2) := by decide +kernel
theorem dX6_look_82 : decode cX6_look 82 = .ok (.iinc 3 1, 3) := by decide +kernel
theorem dX6_look_85 : decode cX6_look 85 = .ok (.goto (-22), 3) := by decide +kernel
theorem dX6_look_88 : decode cX6_look 88 = .ok (.iload 6, 2) := by decide +kernel
theorem dX6_look_90 : decode cX6_look 90 = .ok (.iconst 1, 1) := by decide +kernel
theorem dX6_look_91 : decode cX6_look 91 = .ok (.if_icmp .ne 8, 3) := by decide +kernel
theorem dX6_look_94 : decode cX6_look 94 = .ok (.iload 4, 2) := by decide +kernel
theorem dX6_look_96 : decode cX6_look 96 = .ok (.goto 15, 3) := by decide +kernel
theorem dX6_look_99 : decode cX6_look 99 = .ok (.iload 6, 2) := by decide +kernel
theorem dX6_look_101 : decode cX6_look 101 = .ok (.iconst 2, 1) := by decide +kernel
theorem dX6_look_102 : decode cX6_look 102 = .ok (.if_icmp .ne 8, 3) := by decide +kernel
theorem dX6_look_105 : decode cX6_look 105 = .ok (.bipush (-2), 2) := by decide +kernel
theorem dX6_look_107 : decode cX6_look 107 = .ok (.goto 4, 3) := by decide +kernel
theorem dX6_look_110 : decode cX6_look 110 = .ok (.iconst (-1), 1) := by decide +kernel
theorem dX6_look_111 : decode cX6_look 111 = .ok (.istore_n 2, 1) := by decide +kernel
theorem dX6_look_112 : decode cX6_look 112 = .ok (.iinc 4 1, 3) := by decide +kernel
theorem dX6_look_115 : decode cX6_look 115 = .ok (.goto (-74), 3) := by decide +kernel
theorem dX6_look_118 : decode cX6_look 118 = .ok (.aload_n 0, 1) := by decide +kernel
theorem dX6_look_119 : decode cX6_look 119 = .ok (.aload_n 0, 1) := by decide +kernel
theorem dX6_look_120 : decode cX6_look 120 = .ok (.getfield 60, 3) := by decide +kernel
theorem dX6_look_123 : decode cX6_look 123 = .ok (.iconst 0, 1) := by decide +kernel
theorem dX6_look_124 : decode cX6_look 124 = .ok (.invokevirtual 154, 3) := by decide +kernel
theorem dX6_look_127 : decode cX6_look 127 = .ok (.iload_n 2, 1) := by decide +kernel
theorem dX6_look_128 : decode cX6_look 128 = .ok (.ireturn, 1) := by decide +kernel
theorem dX6_search_0 : decode cX6_search 0 = .ok (.aload_n 0, 1) := by decide +kernel
theorem dX6_search_1 : decode cX6_search 1 = .ok (.iload_n 1, 1) := by decide +kernel
theorem dX6_search_2 : decode cX6_search 2 = .ok (.iconst 1, 1) := by decide +kernel
theorem dX6_search_3 : decode cX6_search 3 = .ok (.sipush 400, 3) := by decide +kernel
theorem dX6_search_6 : decode cX6_search 6 = .ok (.invokestatic 99, 3) := by decide +kernel
theorem dX6_search_9 : decode cX6_search 9 = .ok (.ifCond .eq 7, 3) := by decide +kernel
theorem dX6_search_12 : decode cX6_search 12 = .ok (.iconst 0, 1) := by decide +kernel
theorem dX6_search_13 : decode cX6_search 13 = .ok (.goto 4, 3) := by decide +kernel
theorem dX6_search_16 : decode cX6_search 16 = .ok (.iconst 1, 1) := by decide +kernel
theorem dX6_search_17 : decode cX6_search 17 = .ok (.invokevirtual 103, 3) := by decide +kernel
theorem dX6_search_20 : decode cX6_search 20 = .ok (.ifCond .eq 11, 3) := by decide +kernel
theorem dX6_search_23 : decode cX6_search 23 = .ok (.aload_n 0, 1) := by decide +kernel
theorem dX6_search_24 : decode cX6_search 24 = .ok (.iload_n 1, 1) := by decide +kernel
theorem dX6_search_25 : decode cX6_search 25 = .ok (.invokevirtual 244, 3) := by decide +kernel
theorem dX6_search_28 : decode cX6_search 28 = .ok (.goto 4, 3) := by decide +kernel
theorem dX6_search_31 : decode cX6_search 31 = .ok (.iconst 0, 1) := by decide +kernel
theorem dX6_search_32 : decode cX6_search 32 = .ok (.ireturn, 1) := by decide +kernel
theorem dX6_known_0 : decode cX6_known 0 = .ok (.aload_n 0, 1) := by decide +kernel
theorem dX6_known_1 : decode cX6_known 1 = .ok (.iload_n 1, 1) := by decide +kernel
theorem dX6_known_2 : decode cX6_known 2 = .ok (.iconst 1, 1) := by decide +kernel
theorem dX6_known_3 : decode cX6_known 3 = .ok (.sipush 400, 3) := by decide +kernel
theorem dX6_known_6 : decode cX6_known 6 = .ok (.invokestatic 99, 3) := by decide +kernel
theorem dX6_known_9 : decode cX6_known 9 = .ok (.ifCond .eq 7, 3) := by decide +kernel
theorem dX6_known_12 : decode cX6_known 12 = .ok (.iconst 0, 1) := by decide +kernel
theorem dX6_known_13 : decode cX6_known 13 = .ok (.goto 4, 3) := by decide +kernel
theorem dX6_known_16 : decode cX6_known 16 = .ok (.iconst 1, 1) := by decide +kernel
theorem dX6_known_17 : decode cX6_known 17 = .ok (.invokevirtual 103, 3) := by decide +kernel
theorem dX6_known_20 : decode cX6_known 20 = .ok (.ifCond .ne 5, 3) := by decide +kernel
theorem dX6_known_23 : decode cX6_known 23 = .ok (.iconst 0, 1) := by decide +kernel
theorem dX6_known_24 : decode cX6_known 24 = .ok (.ireturn, 1) := by decide +kernel
theorem dX6_known_25 : decode cX6_known 25 = .ok (.aload_n 0, 1) := by decide +kernel
theorem dX6_known_26 : decode cX6_known 26 = .ok (.iload_n 1, 1) := by decide +kernel
theorem dX6_known_27 : decode cX6_known 27 = .ok (.invokevirtual 244, 3) := by decide +kernel
theorem dX6_known_30 : decode cX6_known 30 = .ok (.istore_n 2, 1) := by decide +kernel
theorem dX6_known_31 : decode cX6_known 31 = .ok (.aload_n 0, 1) := by decide +kernel
theorem dX6_known_32 : decode cX6_known 32 = .ok (.getfield 228, 3) := by decide +kernel
theorem dX6_known_35 : decode cX6_known 35 = .ok (.ireturn, 1) := by decide +kernel
theorem dX6_hint_0 : decode cX6_hint 0 = .ok (.aload_n 0, 1) := by decide +kernel
theorem dX6_hint_1 : decode cX6_hint 1 = .ok (.iconst 0, 1) := by decide +kernel
theorem dX6_hint_2 : decode cX6_hint 2 = .ok (.putfield 83, 3) := by decide +kernel
theorem dX6_hint_5 : decode cX6_hint 5 = .ok (.aload_n 0, 1) := by decide +kernel
theorem dX6_hint_6 : decode cX6_hint 6 = .ok (.bipush 100, 2) := by decide +kernel
theorem dX6_hint_8 : decode cX6_hint 8 = .ok (.invokevirtual 244, 3) := by decide +kernel
theorem dX6_hint_11 : decode cX6_hint 11 = .ok (.istore_n 1, 1) := by decide +kernel
theorem dX6_hint_12 : decode cX6_hint 12 = .ok (.iload_n 1, 1) := by decide +kernel
theorem dX6_hint_13 : decode cX6_hint 13 = .ok (.iconst 1, 1) := by decide +kernel
theorem dX6_hint_14 : decode cX6_hint 14 = .ok (.if_icmp .ge 5, 3) := by decide +kernel
theorem dX6_hint_17 : decode cX6_hint 17 = .ok (.iconst (-1), 1) := by decide +kernel
theorem dX6_hint_18 : decode cX6_hint 18 = .ok (.ireturn, 1) := by decide +kernel
theorem dX6_hint_19 : decode cX6_hint 19 = .ok (.aload_n 0, 1) := by decide +kernel
theorem dX6_hint_20 : decode cX6_hint 20 = .ok (.aload_n 0, 1) := by decide +kernel
theorem dX6_hint_21 : decode cX6_hint 21 = .ok (.getfield 57, 3) := by decide +kernel
theorem dX6_hint_24 : decode cX6_hint 24 = .ok (.iconst 0, 1) := by decide +kernel
theorem dX6_hint_25 : decode cX6_hint 25 = .ok (.invokevirtual 79, 3) := by decide +kernel
theorem dX6_hint_28 : decode cX6_hint 28 = .ok (.iconst (-1), 1) := by decide +kernel
theorem dX6_hint_29 : decode cX6_hint 29 = .ok (.aload_n 0, 1) := by decide +kernel
theorem dX6_hint_30 : decode cX6_hint 30 = .ok (.iconst (-1), 1) := by decide +kernel
theorem dX6_hint_31 : decode cX6_hint 31 = .ok (.invokevirtual 218, 3) := by decide +kernel
theorem dX6_hint_34 : decode cX6_hint 34 = .ok (.isub, 1) := by decide +kernel
theorem dX6_hint_35 : decode cX6_hint 35 = .ok (.istore_n 2, 1) := by decide +kernel
theorem dX6_hint_36 : decode cX6_hint 36 = .ok (.iconst 0, 1) := by decide +kernel
theorem dX6_hint_37 : decode cX6_hint 37 = .ok (.istore_n 3, 1) := by decide +kernel
theorem dX6_hint_38 : decode cX6_hint 38 = .ok (.iload_n 3, 1) := by decide +kernel
theorem dX6_hint_39 : decode cX6_hint 39 = .ok (.iload_n 2, 1) := by decide +kernel
theorem dX6_hint_40 : decode cX6_hint 40 = .ok (.if_icmp .ge 67, 3) := by decide +kernel
theorem dX6_hint_43 : decode cX6_hint 43 = .ok (.aload_n 0, 1) := by decide +kernel
theorem dX6_hint_44 : decode cX6_hint 44 = .ok (.iload_n 3, 1) := by decide +kernel
theorem dX6_hint_45 : decode cX6_hint 45 = .ok (.invokevirtual 218, 3) := by decide +kernel
theorem dX6_hint_48 : decode cX6_hint 48 = .ok (.istore 4, 2) := by decide +kernel
theorem dX6_hint_50 : decode cX6_hint 50 = .ok (.aload_n 0, 1) := by decide +kernel
theorem dX6_hint_51 : decode cX6_hint 51 = .ok (.iload 4, 2) := by decide +kernel
theorem dX6_hint_53 : decode cX6_hint 53 = .ok (.sipush 1000, 3) := by decide +kernel
theorem dX6_hint_56 : decode cX6_hint 56 = .ok (.idiv, 1) := by decide +kernel
theorem dX6_hint_57 : decode cX6_hint 57 = .ok (.iload 4, 2) := by decide +kernel
theorem dX6_hint_59 : decode cX6_hint 59 = .ok (.bipush 100, 2) := by decide +kernel
theorem dX6_hint_61 : decode cX6_hint 61 = .ok (.idiv, 1) := by decide +kernel
theorem dX6_hint_62 : decode cX6_hint 62 = .ok (.bipush 10, 2) := by decide +kernel
theorem dX6_hint_64 : decode cX6_hint 64 = .ok (.irem, 1) := by decide +kernel
theorem dX6_hint_65 : decode cX6_hint 65 = .ok (.iload 4, 2) := by decide +kernel
theorem dX6_hint_67 : decode cX6_hint 67 = .ok (.bipush 100, 2) := by decide +kernel
theorem dX6_hint_69 : decode cX6_hint 69 = .ok (.irem, 1) := by decide +kernel
theorem dX6_hint_70 : decode cX6_hint 70 = .ok (.invokevirtual 205, 3) := by decide +kernel
theorem dX6_hint_73 : decode cX6_hint 73 = .ok (.aload_n 0, 1) := by decide +kernel
theorem dX6_hint_74 : decode cX6_hint 74 = .ok (.bipush 100, 2) := by decide +kernel
theorem dX6_hint_76 : decode cX6_hint 76 = .ok (.invokevirtual 244, 3) := by decide +kernel
theorem dX6_hint_79 : decode cX6_hint 79 = .ok (.istore 5, 2) := by decide +kernel
theorem dX6_hint_81 : decode cX6_hint 81 = .ok (.aload_n 0, 1) := by decide +kernel
theorem dX6_hint_82 : decode cX6_hint 82 = .ok (.aload_n 0, 1) := by decide +kernel
theorem dX6_hint_83 : decode cX6_hint 83 = .ok (.getfield 57, 3) := by decide +kernel
theorem dX6_hint_86 : decode cX6_hint 86 = .ok (.iconst 0, 1) := by decide +kernel
theorem dX6_hint_87 : decode cX6_hint 87 = .ok (.invokevirtual 154, 3) := by decide +kernel
theorem dX6_hint_90 : decode cX6_hint 90 = .ok (.iload 5, 2) := by decide +kernel
theorem dX6_hint_92 : decode cX6_hint 92 = .ok (.iload_n 1, 1) := by decide +kernel
theorem dX6_hint_93 : decode cX6_hint 93 = .ok (.iconst 1, 1) := by decide +kernel
theorem dX6_hint_94 : decode cX6_hint 94 = .ok (.isub, 1) := by decide +kernel
theorem dX6_hint_95 : decode cX6_hint 95 = .ok (.if_icmp .ne 6, 3) := by decide +kernel
theorem dX6_hint_98 : decode cX6_hint 98 = .ok (.iload 4, 2) := by decide +kernel
theorem dX6_hint_100 : decode cX6_hint 100 = .ok (.ireturn, 1) := by decide +kernel
theorem dX6_hint_101 : decode cX6_hint 101 = .ok (.iinc 3 1, 3) := by decide +kernel
theorem dX6_hint_104 : decode cX6_hint 104 = .ok (.goto (-66), 3) := by decide +kernel
theorem dX6_hint_107 : decode cX6_hint 107 = .ok (.iconst (-1), 1) := by decide +kernel
theorem dX6_hint_108 : decode cX6_hint 108 = .ok (.ireturn, 1) := by decide +kernel
theorem dX6_odds_0 : decode cX6_odds 0 = .ok (.iload_n 1, 1) := by decide +kernel
theorem dX6_odds_1 : decode cX6_odds 1 = .ok (.iconst 0, 1) := by decide +kernel
theorem dX6_odds_2 : decode cX6_odds 2 = .ok (.iconst 1, 1) := by decide +kernel
theorem dX6_odds_3 : decode cX6_odds 3 = .ok (.invokestatic 99, 3) := by decide +kernel
theorem dX6_odds_6 : decode cX6_odds 6 = .ok (.ifCond .eq 39, 3) := by decide +kernel
theorem dX6_odds_9 : decode cX6_odds 9 = .ok (.iload_n 2, 1) := by decide +kernel
theorem dX6_odds_10 : decode cX6_odds 10 = .ok (.iconst 0, 1) := by decide +kernel
theorem dX6_odds_11 : decode cX6_odds 11 = .ok (.ldc 140, 2) := by decide +kernel
theorem dX6_odds_13 : decode cX6_odds 13 = .ok (.invokestatic 99, 3) := by decide +kernel
theorem dX6_odds_16 : decode cX6_odds 16 = .ok (.ifCond .eq 29, 3) := by decide +kernel
theorem dX6_odds_19 : decode cX6_odds 19 = .ok (.iload_n 3, 1) := by decide +kernel
theorem dX6_odds_20 : decode cX6_odds 20 = .ok (.iconst 1, 1) := by decide +kernel
theorem dX6_odds_21 : decode cX6_odds 21 = .ok (.bipush 8, 2) := by decide +kernel
theorem dX6_odds_23 : decode cX6_odds 23 = .ok (.invokestatic 99, 3) := by decide +kernel
theorem dX6_odds_26 : decode cX6_odds 26 = .ok (.ifCond .eq 19, 3) := by decide +kernel
theorem dX6_odds_29 : decode cX6_odds 29 = .ok (.iload 4, 2) := by decide +kernel
theorem dX6_odds_31 : decode cX6_odds 31 = .ok (.iconst 1, 1) := by decide +kernel
theorem dX6_odds_32 : decode cX6_odds 32 = .ok (.sipush 200, 3) := by decide +kernel
theorem dX6_odds_35 : decode cX6_odds 35 = .ok (.invokestatic 99, 3) := by decide +kernel
theorem dX6_odds_38 : decode cX6_odds 38 = .ok (.ifCond .eq 7, 3) := by decide +kernel
theorem dX6_odds_41 : decode cX6_odds 41 = .ok (.iconst 1, 1) := by decide +kernel
theorem dX6_odds_42 : decode cX6_odds 42 = .ok (.goto 4, 3) := by decide +kernel
theorem dX6_odds_45 : decode cX6_odds 45 = .ok (.iconst 0, 1) := by decide +kernel
theorem dX6_odds_46 : decode cX6_odds 46 = .ok (.istore 5, 2) := by decide +kernel
theorem dX6_odds_48 : decode cX6_odds 48 = .ok (.aload_n 0, 1) := by decide +kernel
theorem dX6_odds_49 : decode cX6_odds 49 = .ok (.iload 5, 2) := by decide +kernel
theorem dX6_odds_51 : decode cX6_odds 51 = .ok (.ifCond .eq 7, 3) := by decide +kernel
theorem dX6_odds_54 : decode cX6_odds 54 = .ok (.iconst 0, 1) := by decide +kernel
theorem dX6_odds_55 : decode cX6_odds 55 = .ok (.goto 4, 3) := by decide +kernel
theorem dX6_odds_58 : decode cX6_odds 58 = .ok (.iconst 1, 1) := by decide +kernel
theorem dX6_odds_59 : decode cX6_odds 59 = .ok (.invokevirtual 103, 3) := by decide +kernel
theorem dX6_odds_62 : decode cX6_odds 62 = .ok (.ifCond .ne 5, 3) := by decide +kernel
theorem dX6_odds_65 : decode cX6_odds 65 = .ok (.iconst 0, 1) := by decide +kernel
theorem dX6_odds_66 : decode cX6_odds 66 = .ok (.ireturn, 1) := by decide +kernel
theorem dX6_odds_67 : decode cX6_odds 67 = .ok (.aload_n 0, 1) := by decide +kernel
theorem dX6_odds_68 : decode cX6_odds 68 = .ok (.aload_n 0, 1) := by decide +kernel
theorem dX6_odds_69 : decode cX6_odds 69 = .ok (.getfield 57, 3) := by decide +kernel
theorem dX6_odds_72 : decode cX6_odds 72 = .ok (.iconst 0, 1) := by decide +kernel
theorem dX6_odds_73 : decode cX6_odds 73 = .ok (.invokevirtual 79, 3) := by decide +kernel
theorem dX6_odds_76 : decode cX6_odds 76 = .ok (.iconst 0, 1) := by decide +kernel
theorem dX6_odds_77 : decode cX6_odds 77 = .ok (.istore 6, 2) := by decide +kernel
theorem dX6_odds_79 : decode cX6_odds 79 = .ok (.iload 6, 2) := by decide +kernel
theorem dX6_odds_81 : decode cX6_odds 81 = .ok (.bipush 9, 2) := by decide +kernel
theorem dX6_odds_83 : decode cX6_odds 83 = .ok (.if_icmp .ge 23, 3) := by decide +kernel
theorem dX6_odds_86 : decode cX6_odds 86 = .ok (.aload_n 0, 1) := by decide +kernel
theorem dX6_odds_87 : decode cX6_odds 87 = .ok (.getfield 29, 3) := by decide +kernel
theorem dX6_odds_90 : decode cX6_odds 90 = .ok (.iload 6, 2) := by decide +kernel
theorem dX6_odds_92 : decode cX6_odds 92 = .ok (.aload_n 0, 1) := by decide +kernel
theorem dX6_odds_93 : decode cX6_odds 93 = .ok (.getfield 25, 3) := by decide +kernel
theorem dX6_odds_96 : decode cX6_odds 96 = .ok (.iload 6, 2) := by decide +kernel
theorem dX6_odds_98 : decode cX6_odds 98 = .ok (.iaload, 1) := by decide +kernel
theorem dX6_odds_99 : decode cX6_odds 99 = .ok (.iastore, 1) := by decide +kernel
theorem dX6_odds_100 : decode cX6_odds 100 = .ok (.iinc 6 1, 3) := by decide +kernel
theorem dX6_odds_103 : decode cX6_odds 103 = .ok (.goto (-24), 3) := by decide +kernel
theorem dX6_odds_106 : decode cX6_odds 106 = .ok (.aload_n 0, 1) := by decide +kernel
theorem dX6_odds_107 : decode cX6_odds 107 = .ok (.invokevirtual 72, 3) := by decide +kernel
theorem dX6_odds_110 : decode cX6_odds 110 = .ok (.iconst 0, 1) := by decide +kernel
theorem dX6_odds_111 : decode cX6_odds 111 = .ok (.istore 6, 2) := by decide +kernel
theorem dX6_odds_113 : decode cX6_odds 113 = .ok (.iconst 0, 1) := by decide +kernel
theorem dX6_odds_114 : decode cX6_odds 114 = .ok (.istore 7, 2) := by decide +kernel
theorem dX6_odds_116 : decode cX6_odds 116 = .ok (.iconst 0, 1) := by decide +kernel
theorem dX6_odds_117 : decode cX6_odds 117 = .ok (.istore 8, 2) := by decide +kernel
theorem dX6_odds_119 : decode cX6_odds 119 = .ok (.iload 8, 2) := by decide +kernel
theorem dX6_odds_121 : decode cX6_odds 121 = .ok (.iload_n 3, 1) := by decide +kernel
theorem dX6_odds_122 : decode cX6_odds 122 = .ok (.if_icmp .ge 57, 3) := by decide +kernel
theorem dX6_odds_125 : decode cX6_odds 125 = .ok (.aload_n 0, 1) := by decide +kernel
theorem dX6_odds_126 : decode cX6_odds 126 = .ok (.iload_n 1, 1) := by decide +kernel
theorem dX6_odds_127 : decode cX6_odds 127 = .ok (.iload_n 2, 1) := by decide +kernel
theorem dX6_odds_128 : decode cX6_odds 128 = .ok (.iload 8, 2) := by decide +kernel
theorem dX6_odds_130 : decode cX6_odds 130 = .ok (.iadd, 1) := by decide +kernel
theorem dX6_odds_131 : decode cX6_odds 131 = .ok (.invokevirtual 75, 3) := by decide +kernel
theorem dX6_odds_134 : decode cX6_odds 134 = .ok (.aload_n 0, 1) := by decide +kernel
theorem dX6_odds_135 : decode cX6_odds 135 = .ok (.iload 4, 2) := by decide +kernel
theorem dX6_odds_137 : decode cX6_odds 137 = .ok (.invokevirtual 244, 3) := by decide +kernel
theorem dX6_odds_140 : decode cX6_odds 140 = .ok (.istore 9, 2) := by decide +kernel
theorem dX6_odds_142 : decode cX6_odds 142 = .ok (.iload 6, 2) := by decide +kernel
theorem dX6_odds_144 : decode cX6_odds 144 = .ok (.iload 9, 2) := by decide +kernel
theorem dX6_odds_146 : decode cX6_odds 146 = .ok (.ifCond .lt 7, 3) := by decide +kernel
theorem dX6_odds_149 : decode cX6_odds 149 = .ok (.iconst 1, 1) := by decide +kernel
theorem dX6_odds_150 : decode cX6_odds 150 = .ok (.goto 4, 3) := by decide +kernel
theorem dX6_odds_153 : decode cX6_odds 153 = .ok (.iconst 0, 1) := by decide +kernel
theorem dX6_odds_154 : decode cX6_odds 154 = .ok (.iadd, 1) := by decide +kernel
theorem dX6_odds_155 : decode cX6_odds 155 = .ok (.istore 6, 2) := by decide +kernel
theorem dX6_odds_157 : decode cX6_odds 157 = .ok (.iload 7, 2) := by decide +kernel
theorem dX6_odds_159 : decode cX6_odds 159 = .ok (.iload 9, 2) := by decide +kernel
theorem dX6_odds_161 : decode cX6_odds 161 = .ok (.iconst (-1), 1) := by decide +kernel
theorem dX6_odds_162 : decode cX6_odds 162 = .ok (.if_icmp .ne 7, 3) := by decide +kernel
theorem dX6_odds_165 : decode cX6_odds 165 = .ok (.iconst 1, 1) := by decide +kernel
theorem dX6_odds_166 : decode cX6_odds 166 = .ok (.goto 4, 3) := by decide +kernel
theorem dX6_odds_169 : decode cX6_odds 169 = .ok (.iconst 0, 1) := by decide +kernel
theorem dX6_odds_170 : decode cX6_odds 170 = .ok (.iadd, 1) := by decide +kernel
theorem dX6_odds_171 : decode cX6_odds 171 = .ok (.istore 7, 2) := by decide +kernel
theorem dX6_odds_173 : decode cX6_odds 173 = .ok (.iinc 8 1, 3) := by decide +kernel
theorem dX6_odds_176 : decode cX6_odds 176 = .ok (.goto (-57), 3) := by decide +kernel
theorem dX6_odds_179 : decode cX6_odds 179 = .ok (.iconst 0, 1) := by decide +kernel
theorem dX6_odds_180 : decode cX6_odds 180 = .ok (.istore 8, 2) := by decide +kernel
theorem dX6_odds_182 : decode cX6_odds 182 = .ok (.iload 8, 2) := by decide +kernel
theorem dX6_odds_184 : decode cX6_odds 184 = .ok (.bipush 9, 2) := by decide +kernel
theorem dX6_odds_186 : decode cX6_odds 186 = .ok (.if_icmp .ge 23, 3) := by decide +kernel
theorem dX6_odds_189 : decode cX6_odds 189 = .ok (.aload_n 0, 1) := by decide +kernel
theorem dX6_odds_190 : decode cX6_odds 190 = .ok (.getfield 25, 3) := by decide +kernel
theorem dX6_odds_193 : decode cX6_odds 193 = .ok (.iload 8, 2) := by decide +kernel
theorem dX6_odds_195 : decode cX6_odds 195 = .ok (.aload_n 0, 1) := by decide +kernel
theorem dX6_odds_196 : decode cX6_odds 196 = .ok (.getfield 29, 3) := by decide +kernel
theorem dX6_odds_199 : decode cX6_odds 199 = .ok (.iload 8, 2) := by decide +kernel
theorem dX6_odds_201 : decode cX6_odds 201 = .ok (.iaload, 1) := by decide +kernel
theorem dX6_odds_202 : decode cX6_odds 202 = .ok (.iastore, 1) := by decide +kernel
theorem dX6_odds_203 : decode cX6_odds 203 = .ok (.iinc 8 1, 3) := by decide +kernel
theorem dX6_odds_206 : decode cX6_odds 206 = .ok (.goto (-24), 3) := by decide +kernel
theorem dX6_odds_209 : decode cX6_odds 209 = .ok (.aload_n 0, 1) := by decide +kernel
theorem dX6_odds_210 : decode cX6_odds 210 = .ok (.aload_n 0, 1) := by decide +kernel
theorem dX6_odds_211 : decode cX6_odds 211 = .ok (.getfield 57, 3) := by decide +kernel
theorem dX6_odds_214 : decode cX6_odds 214 = .ok (.iconst 0, 1) := by decide +kernel
theorem dX6_odds_215 : decode cX6_odds 215 = .ok (.invokevirtual 154, 3) := by decide +kernel
theorem dX6_odds_218 : decode cX6_odds 218 = .ok (.bipush 10, 2) := by decide +kernel
theorem dX6_odds_220 : decode cX6_odds 220 = .ok (.iload 6, 2) := by decide +kernel
theorem dX6_odds_222 : decode cX6_odds 222 = .ok (.imul, 1) := by decide +kernel
theorem dX6_odds_223 : decode cX6_odds 223 = .ok (.iload 7, 2) := by decide +kernel
theorem dX6_odds_225 : decode cX6_odds 225 = .ok (.iadd, 1) := by decide +kernel
theorem dX6_odds_226 : decode cX6_odds 226 = .ok (.ireturn, 1) := by decide +kernel
