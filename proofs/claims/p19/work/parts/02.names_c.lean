theorem dX0_init_0 : decode cX0_init 0 = .ok (.aload_n 0, 1) := by decide +kernel
theorem dX0_init_1 : decode cX0_init 1 = .ok (.invokespecial 3, 3) := by decide +kernel
theorem dX0_init_4 : decode cX0_init 4 = .ok (.aload_n 0, 1) := by decide +kernel
theorem dX0_init_5 : decode cX0_init 5 = .ok (.bipush 16, 2) := by decide +kernel
theorem dX0_init_7 : decode cX0_init 7 = .ok (.newarray .int, 2) := by decide +kernel
theorem dX0_init_9 : decode cX0_init 9 = .ok (.putfield 9, 3) := by decide +kernel
theorem dX0_init_12 : decode cX0_init 12 = .ok (.aload_n 0, 1) := by decide +kernel
theorem dX0_init_13 : decode cX0_init 13 = .ok (.bipush 16, 2) := by decide +kernel
theorem dX0_init_15 : decode cX0_init 15 = .ok (.newarray .int, 2) := by decide +kernel
theorem dX0_init_17 : decode cX0_init 17 = .ok (.putfield 15, 3) := by decide +kernel
theorem dX0_init_20 : decode cX0_init 20 = .ok (.return_, 1) := by decide +kernel
theorem dX0_draw_0 : decode cX0_draw 0 = .ok (.iconst 0, 1) := by decide +kernel
theorem dX0_draw_1 : decode cX0_draw 1 = .ok (.istore 4, 2) := by decide +kernel
theorem dX0_draw_3 : decode cX0_draw 3 = .ok (.iload 4, 2) := by decide +kernel
theorem dX0_draw_5 : decode cX0_draw 5 = .ok (.aload_n 0, 1) := by decide +kernel
theorem dX0_draw_6 : decode cX0_draw 6 = .ok (.getfield 9, 3) := by decide +kernel
theorem dX0_draw_9 : decode cX0_draw 9 = .ok (.arraylength, 1) := by decide +kernel
theorem dX0_draw_10 : decode cX0_draw 10 = .ok (.if_icmp .ge 18, 3) := by decide +kernel
theorem dX0_draw_13 : decode cX0_draw 13 = .ok (.aload_n 0, 1) := by decide +kernel
theorem dX0_draw_14 : decode cX0_draw 14 = .ok (.getfield 9, 3) := by decide +kernel
theorem dX0_draw_17 : decode cX0_draw 17 = .ok (.iload 4, 2) := by decide +kernel
theorem dX0_draw_19 : decode cX0_draw 19 = .ok (.iload 4, 2) := by decide +kernel
theorem dX0_draw_21 : decode cX0_draw 21 = .ok (.iastore, 1) := by decide +kernel
theorem dX0_draw_22 : decode cX0_draw 22 = .ok (.iinc 4 1, 3) := by decide +kernel
theorem dX0_draw_25 : decode cX0_draw 25 = .ok (.goto (-22), 3) := by decide +kernel
theorem dX0_draw_28 : decode cX0_draw 28 = .ok (.iload_n 2, 1) := by decide +kernel
theorem dX0_draw_29 : decode cX0_draw 29 = .ok (.istore 4, 2) := by decide +kernel
theorem dX0_draw_31 : decode cX0_draw 31 = .ok (.iload_n 3, 1) := by decide +kernel
theorem dX0_draw_32 : decode cX0_draw 32 = .ok (.bipush 16, 2) := by decide +kernel
theorem dX0_draw_34 : decode cX0_draw 34 = .ok (.invokestatic 18, 3) := by decide +kernel
theorem dX0_draw_37 : decode cX0_draw 37 = .ok (.istore 5, 2) := by decide +kernel
theorem dX0_draw_39 : decode cX0_draw 39 = .ok (.iload 5, 2) := by decide +kernel
theorem dX0_draw_41 : decode cX0_draw 41 = .ok (.ifCond .le 70, 3) := by decide +kernel
theorem dX0_draw_44 : decode cX0_draw 44 = .ok (.iload_n 1, 1) := by decide +kernel
theorem dX0_draw_45 : decode cX0_draw 45 = .ok (.iload 4, 2) := by decide +kernel
theorem dX0_draw_47 : decode cX0_draw 47 = .ok (.invokestatic 24, 3) := by decide +kernel
theorem dX0_draw_50 : decode cX0_draw 50 = .ok (.istore 4, 2) := by decide +kernel
theorem dX0_draw_52 : decode cX0_draw 52 = .ok (.iload 4, 2) := by decide +kernel
theorem dX0_draw_54 : decode cX0_draw 54 = .ok (.ldc 27, 2) := by decide +kernel
theorem dX0_draw_56 : decode cX0_draw 56 = .ok (.idiv, 1) := by decide +kernel
theorem dX0_draw_57 : decode cX0_draw 57 = .ok (.ldc 28, 2) := by decide +kernel
theorem dX0_draw_59 : decode cX0_draw 59 = .ok (.irem, 1) := by decide +kernel
theorem dX0_draw_60 : decode cX0_draw 60 = .ok (.iload 5, 2) := by decide +kernel
theorem dX0_draw_62 : decode cX0_draw 62 = .ok (.irem, 1) := by decide +kernel
theorem dX0_draw_63 : decode cX0_draw 63 = .ok (.istore 6, 2) := by decide +kernel
theorem dX0_draw_65 : decode cX0_draw 65 = .ok (.aload_n 0, 1) := by decide +kernel
theorem dX0_draw_66 : decode cX0_draw 66 = .ok (.getfield 15, 3) := by decide +kernel
theorem dX0_draw_69 : decode cX0_draw 69 = .ok (.iload_n 3, 1) := by decide +kernel
theorem dX0_draw_70 : decode cX0_draw 70 = .ok (.iload 5, 2) := by decide +kernel
theorem dX0_draw_72 : decode cX0_draw 72 = .ok (.isub, 1) := by decide +kernel
theorem dX0_draw_73 : decode cX0_draw 73 = .ok (.aload_n 0, 1) := by decide +kernel
theorem dX0_draw_74 : decode cX0_draw 74 = .ok (.getfield 9, 3) := by decide +kernel
theorem dX0_draw_77 : decode cX0_draw 77 = .ok (.iload 6, 2) := by decide +kernel
theorem dX0_draw_79 : decode cX0_draw 79 = .ok (.invokestatic 29, 3) := by decide +kernel
theorem dX0_draw_82 : decode cX0_draw 82 = .ok (.invokestatic 33, 3) := by decide +kernel
theorem dX0_draw_85 : decode cX0_draw 85 = .ok (.aload_n 0, 1) := by decide +kernel
theorem dX0_draw_86 : decode cX0_draw 86 = .ok (.getfield 9, 3) := by decide +kernel
theorem dX0_draw_89 : decode cX0_draw 89 = .ok (.iload 6, 2) := by decide +kernel
theorem dX0_draw_91 : decode cX0_draw 91 = .ok (.aload_n 0, 1) := by decide +kernel
theorem dX0_draw_92 : decode cX0_draw 92 = .ok (.getfield 9, 3) := by decide +kernel
theorem dX0_draw_95 : decode cX0_draw 95 = .ok (.iload 5, 2) := by decide +kernel
theorem dX0_draw_97 : decode cX0_draw 97 = .ok (.iconst 1, 1) := by decide +kernel
theorem dX0_draw_98 : decode cX0_draw 98 = .ok (.isub, 1) := by decide +kernel
theorem dX0_draw_99 : decode cX0_draw 99 = .ok (.invokestatic 29, 3) := by decide +kernel
theorem dX0_draw_102 : decode cX0_draw 102 = .ok (.invokestatic 33, 3) := by decide +kernel
theorem dX0_draw_105 : decode cX0_draw 105 = .ok (.iinc 5 (-1), 3) := by decide +kernel
theorem dX0_draw_108 : decode cX0_draw 108 = .ok (.goto (-69), 3) := by decide +kernel
theorem dX0_draw_111 : decode cX0_draw 111 = .ok (.return_, 1) := by decide +kernel
theorem dX0_takenAt_0 : decode cX0_takenAt 0 = .ok (.aload_n 0, 1) := by decide +kernel
theorem dX0_takenAt_1 : decode cX0_takenAt 1 = .ok (.getfield 15, 3) := by decide +kernel
theorem dX0_takenAt_4 : decode cX0_takenAt 4 = .ok (.iload_n 1, 1) := by decide +kernel
theorem dX0_takenAt_5 : decode cX0_takenAt 5 = .ok (.invokestatic 29, 3) := by decide +kernel
theorem dX0_takenAt_8 : decode cX0_takenAt 8 = .ok (.ireturn, 1) := by decide +kernel
theorem dX0_isSameAs_0 : decode cX0_isSameAs 0 = .ok (.iconst 0, 1) := by decide +kernel
theorem dX0_isSameAs_1 : decode cX0_isSameAs 1 = .ok (.istore_n 3, 1) := by decide +kernel
theorem dX0_isSameAs_2 : decode cX0_isSameAs 2 = .ok (.iload_n 3, 1) := by decide +kernel
theorem dX0_isSameAs_3 : decode cX0_isSameAs 3 = .ok (.iload_n 2, 1) := by decide +kernel
theorem dX0_isSameAs_4 : decode cX0_isSameAs 4 = .ok (.if_icmp .ge 24, 3) := by decide +kernel
theorem dX0_isSameAs_7 : decode cX0_isSameAs 7 = .ok (.aload_n 0, 1) := by decide +kernel
theorem dX0_isSameAs_8 : decode cX0_isSameAs 8 = .ok (.iload_n 3, 1) := by decide +kernel
theorem dX0_isSameAs_9 : decode cX0_isSameAs 9 = .ok (.invokevirtual 37, 3) := by decide +kernel
theorem dX0_isSameAs_12 : decode cX0_isSameAs 12 = .ok (.aload_n 1, 1) := by decide +kernel
theorem dX0_isSameAs_13 : decode cX0_isSameAs 13 = .ok (.iload_n 3, 1) := by decide +kernel
theorem dX0_isSameAs_14 : decode cX0_isSameAs 14 = .ok (.invokevirtual 37, 3) := by decide +kernel
theorem dX0_isSameAs_17 : decode cX0_isSameAs 17 = .ok (.if_icmp .eq 5, 3) := by decide +kernel
theorem dX0_isSameAs_20 : decode cX0_isSameAs 20 = .ok (.iconst 0, 1) := by decide +kernel
theorem dX0_isSameAs_21 : decode cX0_isSameAs 21 = .ok (.ireturn, 1) := by decide +kernel
theorem dX0_isSameAs_22 : decode cX0_isSameAs 22 = .ok (.iinc 3 1, 3) := by decide +kernel
theorem dX0_isSameAs_25 : decode cX0_isSameAs 25 = .ok (.goto (-23), 3) := by decide +kernel
theorem dX0_isSameAs_28 : decode cX0_isSameAs 28 = .ok (.iconst 1, 1) := by decide +kernel
theorem dX0_isSameAs_29 : decode cX0_isSameAs 29 = .ok (.ireturn, 1) := by decide +kernel
theorem dX0_nextOf_0 : decode cX0_nextOf 0 = .ok (.iload_n 0, 1) := by decide +kernel
theorem dX0_nextOf_1 : decode cX0_nextOf 1 = .ok (.ifCond .ne 13, 3) := by decide +kernel
theorem dX0_nextOf_4 : decode cX0_nextOf 4 = .ok (.iload_n 1, 1) := by decide +kernel
theorem dX0_nextOf_5 : decode cX0_nextOf 5 = .ok (.ldc 41, 2) := by decide +kernel
theorem dX0_nextOf_7 : decode cX0_nextOf 7 = .ok (.imul, 1) := by decide +kernel
theorem dX0_nextOf_8 : decode cX0_nextOf 8 = .ok (.ldc 42, 2) := by decide +kernel
theorem dX0_nextOf_10 : decode cX0_nextOf 10 = .ok (.iadd, 1) := by decide +kernel
theorem dX0_nextOf_11 : decode cX0_nextOf 11 = .ok (.goto 11, 3) := by decide +kernel
theorem dX0_nextOf_14 : decode cX0_nextOf 14 = .ok (.iload_n 1, 1) := by decide +kernel
theorem dX0_nextOf_15 : decode cX0_nextOf 15 = .ok (.ldc 43, 2) := by decide +kernel
theorem dX0_nextOf_17 : decode cX0_nextOf 17 = .ok (.imul, 1) := by decide +kernel
theorem dX0_nextOf_18 : decode cX0_nextOf 18 = .ok (.sipush 12345, 3) := by decide +kernel
theorem dX0_nextOf_21 : decode cX0_nextOf 21 = .ok (.iadd, 1) := by decide +kernel
theorem dX0_nextOf_22 : decode cX0_nextOf 22 = .ok (.istore_n 2, 1) := by decide +kernel
theorem dX0_nextOf_23 : decode cX0_nextOf 23 = .ok (.iload_n 2, 1) := by decide +kernel
theorem dX0_nextOf_24 : decode cX0_nextOf 24 = .ok (.ldc 44, 2) := by decide +kernel
theorem dX0_nextOf_26 : decode cX0_nextOf 26 = .ok (.iand, 1) := by decide +kernel
theorem dX0_nextOf_27 : decode cX0_nextOf 27 = .ok (.ireturn, 1) := by decide +kernel
theorem dX1_init_0 : decode cX1_init 0 = .ok (.aload_n 0, 1) := by decide +kernel
theorem dX1_init_1 : decode cX1_init 1 = .ok (.invokespecial 3, 3) := by decide +kernel
theorem dX1_init_4 : decode cX1_init 4 = .ok (.aload_n 0, 1) := by decide +kernel
theorem dX1_init_5 : decode cX1_init 5 = .ok (.iconst 2, 1) := by decide +kernel
theorem dX1_init_6 : decode cX1_init 6 = .ok (.putfield 9, 3) := by decide +kernel
theorem dX1_init_9 : decode cX1_init 9 = .ok (.aload_n 0, 1) := by decide +kernel
theorem dX1_init_10 : decode cX1_init 10 = .ok (.iconst 4, 1) := by decide +kernel
theorem dX1_init_11 : decode cX1_init 11 = .ok (.putfield 15, 3) := by decide +kernel
theorem dX1_init_14 : decode cX1_init 14 = .ok (.aload_n 0, 1) := by decide +kernel
theorem dX1_init_15 : decode cX1_init 15 = .ok (.iconst 3, 1) := by decide +kernel
theorem dX1_init_16 : decode cX1_init 16 = .ok (.putfield 18, 3) := by decide +kernel
theorem dX1_init_19 : decode cX1_init 19 = .ok (.aload_n 0, 1) := by decide +kernel
theorem dX1_init_20 : decode cX1_init 20 = .ok (.iconst 1, 1) := by decide +kernel
theorem dX1_init_21 : decode cX1_init 21 = .ok (.putfield 21, 3) := by decide +kernel
theorem dX1_init_24 : decode cX1_init 24 = .ok (.aload_n 0, 1) := by decide +kernel
theorem dX1_init_25 : decode cX1_init 25 = .ok (.iconst 1, 1) := by decide +kernel
theorem dX1_init_26 : decode cX1_init 26 = .ok (.putfield 24, 3) := by decide +kernel
theorem dX1_init_29 : decode cX1_init 29 = .ok (.aload_n 0, 1) := by decide +kernel
theorem dX1_init_30 : decode cX1_init 30 = .ok (.iconst 0, 1) := by decide +kernel
theorem dX1_init_31 : decode cX1_init 31 = .ok (.putfield 27, 3) := by decide +kernel
theorem dX1_init_34 : decode cX1_init 34 = .ok (.aload_n 0, 1) := by decide +kernel
theorem dX1_init_35 : decode cX1_init 35 = .ok (.iconst 0, 1) := by decide +kernel
theorem dX1_init_36 : decode cX1_init 36 = .ok (.putfield 30, 3) := by decide +kernel
theorem dX1_init_39 : decode cX1_init 39 = .ok (.aload_n 0, 1) := by decide +kernel
theorem dX1_init_40 : decode cX1_init 40 = .ok (.iconst 0, 1) := by decide +kernel
theorem dX1_init_41 : decode cX1_init 41 = .ok (.putfield 33, 3) := by decide +kernel
theorem dX1_init_44 : decode cX1_init 44 = .ok (.aload_n 0, 1) := by decide +kernel
theorem dX1_init_45 : decode cX1_init 45 = .ok (.iconst 0, 1) := by decide +kernel
theorem dX1_init_46 : decode cX1_init 46 = .ok (.putfield 36, 3) := by decide +kernel
theorem dX1_init_49 : decode cX1_init 49 = .ok (.return_, 1) := by decide +kernel
theorem dX1_copyFrom_0 : decode cX1_copyFrom 0 = .ok (.aload_n 0, 1) := by decide +kernel
theorem dX1_copyFrom_1 : decode cX1_copyFrom 1 = .ok (.aload_n 1, 1) := by decide +kernel
theorem dX1_copyFrom_2 : decode cX1_copyFrom 2 = .ok (.getfield 9, 3) := by decide +kernel
theorem dX1_copyFrom_5 : decode cX1_copyFrom 5 = .ok (.putfield 9, 3) := by decide +kernel
theorem dX1_copyFrom_8 : decode cX1_copyFrom 8 = .ok (.aload_n 0, 1) := by decide +kernel
theorem dX1_copyFrom_9 : decode cX1_copyFrom 9 = .ok (.aload_n 1, 1) := by decide +kernel
theorem dX1_copyFrom_10 : decode cX1_copyFrom 10 = .ok (.getfield 15, 3) := by decide +kernel
theorem dX1_copyFrom_13 : decode cX1_copyFrom 13 = .ok (.putfield 15, 3) := by decide +kernel
theorem dX1_copyFrom_16 : decode cX1_copyFrom 16 = .ok (.aload_n 0, 1) := by decide +kernel
theorem dX1_copyFrom_17 : decode cX1_copyFrom 17 = .ok (.aload_n 1, 1) := by decide +kernel
theorem dX1_copyFrom_18 : decode cX1_copyFrom 18 = .ok (.getfield 18, 3) := by decide +kernel
theorem dX1_copyFrom_21 : decode cX1_copyFrom 21 = .ok (.putfield 18, 3) := by decide +kernel
theorem dX1_copyFrom_24 : decode cX1_copyFrom 24 = .ok (.aload_n 0, 1) := by decide +kernel
theorem dX1_copyFrom_25 : decode cX1_copyFrom 25 = .ok (.aload_n 1, 1) := by decide +kernel
theorem dX1_copyFrom_26 : decode cX1_copyFrom 26 = .ok (.getfield 21, 3) := by decide +kernel
theorem dX1_copyFrom_29 : decode cX1_copyFrom 29 = .ok (.putfield 21, 3) := by decide +kernel
theorem dX1_copyFrom_32 : decode cX1_copyFrom 32 = .ok (.aload_n 0, 1) := by decide +kernel
theorem dX1_copyFrom_33 : decode cX1_copyFrom 33 = .ok (.aload_n 1, 1) := by decide +kernel
theorem dX1_copyFrom_34 : decode cX1_copyFrom 34 = .ok (.getfield 24, 3) := by decide +kernel
theorem dX1_copyFrom_37 : decode cX1_copyFrom 37 = .ok (.putfield 24, 3) := by decide +kernel
theorem dX1_copyFrom_40 : decode cX1_copyFrom 40 = .ok (.aload_n 0, 1) := by decide +kernel
theorem dX1_copyFrom_41 : decode cX1_copyFrom 41 = .ok (.aload_n 1, 1) := by decide +kernel
theorem dX1_copyFrom_42 : decode cX1_copyFrom 42 = .ok (.getfield 27, 3) := by decide +kernel
theorem dX1_copyFrom_45 : decode cX1_copyFrom 45 = .ok (.putfield 27, 3) := by decide +kernel
theorem dX1_copyFrom_48 : decode cX1_copyFrom 48 = .ok (.aload_n 0, 1) := by decide +kernel
theorem dX1_copyFrom_49 : decode cX1_copyFrom 49 = .ok (.aload_n 1, 1) := by decide +kernel
theorem dX1_copyFrom_50 : decode cX1_copyFrom 50 = .ok (.getfield 30, 3) := by decide +kernel
theorem dX1_copyFrom_53 : decode cX1_copyFrom 53 = .ok (.putfield 30, 3) := by decide +kernel
theorem dX1_copyFrom_56 : decode cX1_copyFrom 56 = .ok (.aload_n 0, 1) := by decide +kernel
theorem dX1_copyFrom_57 : decode cX1_copyFrom 57 = .ok (.aload_n 1, 1) := by decide +kernel
theorem dX1_copyFrom_58 : decode cX1_copyFrom 58 = .ok (.getfield 33, 3) := by decide +kernel
theorem dX1_copyFrom_61 : decode cX1_copyFrom 61 = .ok (.putfield 33, 3) := by decide +kernel
theorem dX1_copyFrom_64 : decode cX1_copyFrom 64 = .ok (.aload_n 0, 1) := by decide +kernel
theorem dX1_copyFrom_65 : decode cX1_copyFrom 65 = .ok (.aload_n 1, 1) := by decide +kernel
theorem dX1_copyFrom_66 : decode cX1_copyFrom 66 = .ok (.getfield 36, 3) := by decide +kernel
theorem dX1_copyFrom_69 : decode cX1_copyFrom 69 = .ok (.putfield 36, 3) := by decide +kernel
theorem dX1_copyFrom_72 : decode cX1_copyFrom 72 = .ok (.return_, 1) := by decide +kernel
theorem dX1_cards_0 : decode cX1_cards 0 = .ok (.aload_n 0, 1) := by decide +kernel
theorem dX1_cards_1 : decode cX1_cards 1 = .ok (.getfield 9, 3) := by decide +kernel
theorem dX1_cards_4 : decode cX1_cards 4 = .ok (.aload_n 0, 1) := by decide +kernel
theorem dX1_cards_5 : decode cX1_cards 5 = .ok (.getfield 15, 3) := by decide +kernel
theorem dX1_cards_8 : decode cX1_cards 8 = .ok (.imul, 1) := by decide +kernel
theorem dX1_cards_9 : decode cX1_cards 9 = .ok (.ireturn, 1) := by decide +kernel
theorem dX1_inColumns_0 : decode cX1_inColumns 0 = .ok (.aload_n 0, 1) := by decide +kernel
theorem dX1_inColumns_1 : decode cX1_inColumns 1 = .ok (.invokevirtual 40, 3) := by decide +kernel
theorem dX1_inColumns_4 : decode cX1_inColumns 4 = .ok (.aload_n 0, 1) := by decide +kernel
theorem dX1_inColumns_5 : decode cX1_inColumns 5 = .ok (.getfield 30, 3) := by decide +kernel
theorem dX1_inColumns_8 : decode cX1_inColumns 8 = .ok (.isub, 1) := by decide +kernel
theorem dX1_inColumns_9 : decode cX1_inColumns 9 = .ok (.ireturn, 1) := by decide +kernel
theorem dX1_suitOf_0 : decode cX1_suitOf 0 = .ok (.aload_n 0, 1) := by decide +kernel
theorem dX1_suitOf_1 : decode cX1_suitOf 1 = .ok (.getfield 15, 3) := by decide +kernel
theorem dX1_suitOf_4 : decode cX1_suitOf 4 = .ok (.ifCond .le 12, 3) := by decide +kernel
theorem dX1_suitOf_7 : decode cX1_suitOf 7 = .ok (.iload_n 1, 1) := by decide +kernel
theorem dX1_suitOf_8 : decode cX1_suitOf 8 = .ok (.aload_n 0, 1) := by decide +kernel
theorem dX1_suitOf_9 : decode cX1_suitOf 9 = .ok (.getfield 15, 3) := by decide +kernel
theorem dX1_suitOf_12 : decode cX1_suitOf 12 = .ok (.idiv, 1) := by decide +kernel
theorem dX1_suitOf_13 : decode cX1_suitOf 13 = .ok (.goto 4, 3) := by decide +kernel
theorem dX1_suitOf_16 : decode cX1_suitOf 16 = .ok (.iconst 0, 1) := by decide +kernel
theorem dX1_suitOf_17 : decode cX1_suitOf 17 = .ok (.ireturn, 1) := by decide +kernel
theorem dX1_rankOf_0 : decode cX1_rankOf 0 = .ok (.aload_n 0, 1) := by decide +kernel
theorem dX1_rankOf_1 : decode cX1_rankOf 1 = .ok (.getfield 15, 3) := by decide +kernel
theorem dX1_rankOf_4 : decode cX1_rankOf 4 = .ok (.ifCond .le 14, 3) := by decide +kernel
theorem dX1_rankOf_7 : decode cX1_rankOf 7 = .ok (.iload_n 1, 1) := by decide +kernel
theorem dX1_rankOf_8 : decode cX1_rankOf 8 = .ok (.aload_n 0, 1) := by decide +kernel
theorem dX1_rankOf_9 : decode cX1_rankOf 9 = .ok (.getfield 15, 3) := by decide +kernel
theorem dX1_rankOf_12 : decode cX1_rankOf 12 = .ok (.irem, 1) := by decide +kernel
theorem dX1_rankOf_13 : decode cX1_rankOf 13 = .ok (.iconst 1, 1) := by decide +kernel
theorem dX1_rankOf_14 : decode cX1_rankOf 14 = .ok (.iadd, 1) := by decide +kernel
theorem dX1_rankOf_15 : decode cX1_rankOf 15 = .ok (.goto 4, 3) := by decide +kernel
theorem dX1_rankOf_18 : decode cX1_rankOf 18 = .ok (.iconst 0, 1) := by decide +kernel
theorem dX1_rankOf_19 : decode cX1_rankOf 19 = .ok (.ireturn, 1) := by decide +kernel
theorem dX1_isFitting_0 : decode cX1_isFitting 0 = .ok (.aload_n 0, 1) := by decide +kernel
theorem dX1_isFitting_1 : decode cX1_isFitting 1 = .ok (.iload_n 1, 1) := by decide +kernel
theorem dX1_isFitting_2 : decode cX1_isFitting 2 = .ok (.invokevirtual 44, 3) := by decide +kernel
theorem dX1_isFitting_5 : decode cX1_isFitting 5 = .ok (.aload_n 0, 1) := by decide +kernel
theorem dX1_isFitting_6 : decode cX1_isFitting 6 = .ok (.iload_n 2, 1) := by decide +kernel
theorem dX1_isFitting_7 : decode cX1_isFitting 7 = .ok (.invokevirtual 44, 3) := by decide +kernel
theorem dX1_isFitting_10 : decode cX1_isFitting 10 = .ok (.iconst 1, 1) := by decide +kernel
theorem dX1_isFitting_11 : decode cX1_isFitting 11 = .ok (.isub, 1) := by decide +kernel
theorem dX1_isFitting_12 : decode cX1_isFitting 12 = .ok (.if_icmp .eq 5, 3) := by decide +kernel
theorem dX1_isFitting_15 : decode cX1_isFitting 15 = .ok (.iconst 0, 1) := by decide +kernel
theorem dX1_isFitting_16 : decode cX1_isFitting 16 = .ok (.ireturn, 1) := by decide +kernel
theorem dX1_isFitting_17 : decode cX1_isFitting 17 = .ok (.aload_n 0, 1) := by decide +kernel
theorem dX1_isFitting_18 : decode cX1_isFitting 18 = .ok (.getfield 24, 3) := by decide +kernel
theorem dX1_isFitting_21 : decode cX1_isFitting 21 = .ok (.lookupswitch 69 #[(0, 27), (1, 46)], 27) := by decide +kernel
theorem dX1_isFitting_48 : decode cX1_isFitting 48 = .ok (.aload_n 0, 1) := by decide +kernel
theorem dX1_isFitting_49 : decode cX1_isFitting 49 = .ok (.iload_n 1, 1) := by decide +kernel
theorem dX1_isFitting_50 : decode cX1_isFitting 50 = .ok (.invokevirtual 48, 3) := by decide +kernel
theorem dX1_isFitting_53 : decode cX1_isFitting 53 = .ok (.aload_n 0, 1) := by decide +kernel
theorem dX1_isFitting_54 : decode cX1_isFitting 54 = .ok (.iload_n 2, 1) := by decide +kernel
theorem dX1_isFitting_55 : decode cX1_isFitting 55 = .ok (.invokevirtual 48, 3) := by decide +kernel
theorem dX1_isFitting_58 : decode cX1_isFitting 58 = .ok (.if_icmp .ne 7, 3) := by decide +kernel
theorem dX1_isFitting_61 : decode cX1_isFitting 61 = .ok (.iconst 1, 1) := by decide +kernel
theorem dX1_isFitting_62 : decode cX1_isFitting 62 = .ok (.goto 4, 3) := by decide +kernel
theorem dX1_isFitting_65 : decode cX1_isFitting 65 = .ok (.iconst 0, 1) := by decide +kernel
theorem dX1_isFitting_66 : decode cX1_isFitting 66 = .ok (.ireturn, 1) := by decide +kernel
theorem dX1_isFitting_67 : decode cX1_isFitting 67 = .ok (.aload_n 0, 1) := by decide +kernel
theorem dX1_isFitting_68 : decode cX1_isFitting 68 = .ok (.iload_n 1, 1) := by decide +kernel
theorem dX1_isFitting_69 : decode cX1_isFitting 69 = .ok (.invokevirtual 48, 3) := by decide +kernel
theorem dX1_isFitting_72 : decode cX1_isFitting 72 = .ok (.iconst 2, 1) := by decide +kernel
theorem dX1_isFitting_73 : decode cX1_isFitting 73 = .ok (.irem, 1) := by decide +kernel
theorem dX1_isFitting_74 : decode cX1_isFitting 74 = .ok (.aload_n 0, 1) := by decide +kernel
theorem dX1_isFitting_75 : decode cX1_isFitting 75 = .ok (.iload_n 2, 1) := by decide +kernel
theorem dX1_isFitting_76 : decode cX1_isFitting 76 = .ok (.invokevirtual 48, 3) := by decide +kernel
theorem dX1_isFitting_79 : decode cX1_isFitting 79 = .ok (.iconst 2, 1) := by decide +kernel
theorem dX1_isFitting_80 : decode cX1_isFitting 80 = .ok (.irem, 1) := by decide +kernel
theorem dX1_isFitting_81 : decode cX1_isFitting 81 = .ok (.if_icmp .eq 7, 3) := by decide +kernel
theorem dX1_isFitting_84 : decode cX1_isFitting 84 = .ok (.iconst 1, 1) := by decide +kernel
theorem dX1_isFitting_85 : decode cX1_isFitting 85 = .ok (.goto 4, 3) := by decide +kernel
theorem dX1_isFitting_88 : decode cX1_isFitting 88 = .ok (.iconst 0, 1) := by decide +kernel
theorem dX1_isFitting_89 : decode cX1_isFitting 89 = .ok (.ireturn, 1) := by decide +kernel
theorem dX1_isFitting_90 : decode cX1_isFitting 90 = .ok (.iconst 1, 1) := by decide +kernel
theorem dX1_isFitting_91 : decode cX1_isFitting 91 = .ok (.ireturn, 1) := by decide +kernel
theorem dX1_isForEmptyColumns_0 : decode cX1_isForEmptyColumns 0 = .ok (.aload_n 0, 1) := by decide +kernel
theorem dX1_isForEmptyColumns_1 : decode cX1_isForEmptyColumns 1 = .ok (.getfield 27, 3) := by decide +kernel
theorem dX1_isForEmptyColumns_4 : decode cX1_isForEmptyColumns 4 = .ok (.ifCond .eq 23, 3) := by decide +kernel
theorem dX1_isForEmptyColumns_7 : decode cX1_isForEmptyColumns 7 = .ok (.aload_n 0, 1) := by decide +kernel
theorem dX1_isForEmptyColumns_8 : decode cX1_isForEmptyColumns 8 = .ok (.getfield 27, 3) := by decide +kernel
theorem dX1_isForEmptyColumns_11 : decode cX1_isForEmptyColumns 11 = .ok (.iconst 1, 1) := by decide +kernel
theorem dX1_isForEmptyColumns_12 : decode cX1_isForEmptyColumns 12 = .ok (.if_icmp .ne 19, 3) := by decide +kernel
theorem dX1_isForEmptyColumns_15 : decode cX1_isForEmptyColumns 15 = .ok (.aload_n 0, 1) := by decide +kernel
theorem dX1_isForEmptyColumns_16 : decode cX1_isForEmptyColumns 16 = .ok (.iload_n 1, 1) := by decide +kernel
theorem dX1_isForEmptyColumns_17 : decode cX1_isForEmptyColumns 17 = .ok (.invokevirtual 44, 3) := by decide +kernel
theorem dX1_isForEmptyColumns_20 : decode cX1_isForEmptyColumns 20 = .ok (.aload_n 0, 1) := by decide +kernel
theorem dX1_isForEmptyColumns_21 : decode cX1_isForEmptyColumns 21 = .ok (.getfield 15, 3) := by decide +kernel
theorem dX1_isForEmptyColumns_24 : decode cX1_isForEmptyColumns 24 = .ok (.if_icmp .ne 7, 3) := by decide +kernel
theorem dX1_isForEmptyColumns_27 : decode cX1_isForEmptyColumns 27 = .ok (.iconst 1, 1) := by decide +kernel
theorem dX1_isForEmptyColumns_28 : decode cX1_isForEmptyColumns 28 = .ok (.goto 4, 3) := by decide +kernel
theorem dX1_isForEmptyColumns_31 : decode cX1_isForEmptyColumns 31 = .ok (.iconst 0, 1) := by decide +kernel
theorem dX1_isForEmptyColumns_32 : decode cX1_isForEmptyColumns 32 = .ok (.ireturn, 1) := by decide +kernel
theorem dX2_init_0 : decode cX2_init 0 = .ok (.aload_n 0, 1) := by decide +kernel
theorem dX2_init_1 : decode cX2_init 1 = .ok (.invokespecial 3, 3) := by decide +kernel
theorem dX2_init_4 : decode cX2_init 4 = .ok (.aload_n 0, 1) := by decide +kernel
theorem dX2_init_5 : decode cX2_init 5 = .ok (.new 9, 3) := by decide +kernel
theorem dX2_init_8 : decode cX2_init 8 = .ok (.dup, 1) := by decide +kernel
theorem dX2_init_9 : decode cX2_init 9 = .ok (.invokespecial 11, 3) := by decide +kernel
theorem dX2_init_12 : decode cX2_init 12 = .ok (.putfield 12, 3) := by decide +kernel
theorem dX2_init_15 : decode cX2_init 15 = .ok (.aload_n 0, 1) := by decide +kernel
theorem dX2_init_16 : decode cX2_init 16 = .ok (.iconst 0, 1) := by decide +kernel
theorem dX2_init_17 : decode cX2_init 17 = .ok (.putfield 18, 3) := by decide +kernel
theorem dX2_init_20 : decode cX2_init 20 = .ok (.aload_n 0, 1) := by decide +kernel
theorem dX2_init_21 : decode cX2_init 21 = .ok (.new 9, 3) := by decide +kernel
theorem dX2_init_24 : decode cX2_init 24 = .ok (.dup, 1) := by decide +kernel
theorem dX2_init_25 : decode cX2_init 25 = .ok (.invokespecial 11, 3) := by decide +kernel
theorem dX2_init_28 : decode cX2_init 28 = .ok (.putfield 22, 3) := by decide +kernel
theorem dX2_init_31 : decode cX2_init 31 = .ok (.aload_n 0, 1) := by decide +kernel
theorem dX2_init_32 : decode cX2_init 32 = .ok (.new 25, 3) := by decide +kernel
theorem dX2_init_35 : decode cX2_init 35 = .ok (.dup, 1) := by decide +kernel
theorem dX2_init_36 : decode cX2_init 36 = .ok (.sipush 401, 3) := by decide +kernel
theorem dX2_init_39 : decode cX2_init 39 = .ok (.invokespecial 27, 3) := by decide +kernel
theorem dX2_init_42 : decode cX2_init 42 = .ok (.putfield 30, 3) := by decide +kernel
theorem dX2_init_45 : decode cX2_init 45 = .ok (.aload_n 0, 1) := by decide +kernel
theorem dX2_init_46 : decode cX2_init 46 = .ok (.sipush 401, 3) := by decide +kernel
theorem dX2_init_49 : decode cX2_init 49 = .ok (.newarray .int, 2) := by decide +kernel
theorem dX2_init_51 : decode cX2_init 51 = .ok (.putfield 34, 3) := by decide +kernel
theorem dX2_init_54 : decode cX2_init 54 = .ok (.aload_n 0, 1) := by decide +kernel
theorem dX2_init_55 : decode cX2_init 55 = .ok (.sipush 256, 3) := by decide +kernel
theorem dX2_init_58 : decode cX2_init 58 = .ok (.newarray .int, 2) := by decide +kernel
theorem dX2_init_60 : decode cX2_init 60 = .ok (.putfield 38, 3) := by decide +kernel
theorem dX2_init_63 : decode cX2_init 63 = .ok (.aload_n 0, 1) := by decide +kernel
theorem dX2_init_64 : decode cX2_init 64 = .ok (.sipush 401, 3) := by decide +kernel
theorem dX2_init_67 : decode cX2_init 67 = .ok (.newarray .int, 2) := by decide +kernel
theorem dX2_init_69 : decode cX2_init 69 = .ok (.putfield 41, 3) := by decide +kernel
theorem dX2_init_72 : decode cX2_init 72 = .ok (.return_, 1) := by decide +kernel
theorem dX2_run_0 : decode cX2_run 0 = .ok (.aload_n 0, 1) := by decide +kernel
theorem dX2_run_1 : decode cX2_run 1 = .ok (.getfield 38, 3) := by decide +kernel
theorem dX2_run_4 : decode cX2_run 4 = .ok (.iconst (-1), 1) := by decide +kernel
theorem dX2_run_5 : decode cX2_run 5 = .ok (.invokestatic 44, 3) := by decide +kernel
theorem dX2_run_8 : decode cX2_run 8 = .ok (.aload_n 0, 1) := by decide +kernel
theorem dX2_run_9 : decode cX2_run 9 = .ok (.iconst 0, 1) := by decide +kernel
theorem dX2_run_10 : decode cX2_run 10 = .ok (.putfield 18, 3) := by decide +kernel
theorem dX2_run_13 : decode cX2_run 13 = .ok (.aload_n 0, 1) := by decide +kernel
theorem dX2_run_14 : decode cX2_run 14 = .ok (.getfield 22, 3) := by decide +kernel
theorem dX2_run_17 : decode cX2_run 17 = .ok (.aload_n 0, 1) := by decide +kernel
theorem dX2_run_18 : decode cX2_run 18 = .ok (.getfield 12, 3) := by decide +kernel
theorem dX2_run_21 : decode cX2_run 21 = .ok (.invokevirtual 50, 3) := by decide +kernel
theorem dX2_run_24 : decode cX2_run 24 = .ok (.aload_n 0, 1) := by decide +kernel
theorem dX2_run_25 : decode cX2_run 25 = .ok (.getfield 30, 3) := by decide +kernel
theorem dX2_run_28 : decode cX2_run 28 = .ok (.iconst 0, 1) := by decide +kernel
theorem dX2_run_29 : decode cX2_run 29 = .ok (.aload_n 0, 1) := by decide +kernel
theorem dX2_run_30 : decode cX2_run 30 = .ok (.getfield 12, 3) := by decide +kernel
theorem dX2_run_33 : decode cX2_run 33 = .ok (.invokevirtual 54, 3) := by decide +kernel
theorem dX2_run_36 : decode cX2_run 36 = .ok (.aload_n 0, 1) := by decide +kernel
theorem dX2_run_37 : decode cX2_run 37 = .ok (.iconst 0, 1) := by decide +kernel
theorem dX2_run_38 : decode cX2_run 38 = .ok (.invokevirtual 58, 3) := by decide +kernel
theorem dX2_run_41 : decode cX2_run 41 = .ok (.aload_n 0, 1) := by decide +kernel
theorem dX2_run_42 : decode cX2_run 42 = .ok (.getfield 12, 3) := by decide +kernel
theorem dX2_run_45 : decode cX2_run 45 = .ok (.invokevirtual 61, 3) := by decide +kernel
theorem dX2_run_48 : decode cX2_run 48 = .ok (.ifCond .eq 5, 3) := by decide +kernel
theorem dX2_run_51 : decode cX2_run 51 = .ok (.iconst 0, 1) := by decide +kernel
theorem dX2_run_52 : decode cX2_run 52 = .ok (.ireturn, 1) := by decide +kernel
theorem dX2_run_53 : decode cX2_run 53 = .ok (.iconst 0, 1) := by decide +kernel
theorem dX2_run_54 : decode cX2_run 54 = .ok (.istore_n 2, 1) := by decide +kernel
theorem dX2_run_55 : decode cX2_run 55 = .ok (.iload_n 2, 1) := by decide +kernel
theorem dX2_run_56 : decode cX2_run 56 = .ok (.aload_n 0, 1) := by decide +kernel
theorem dX2_run_57 : decode cX2_run 57 = .ok (.getfield 18, 3) := by decide +kernel
theorem dX2_run_60 : decode cX2_run 60 = .ok (.if_icmp .ge 145, 3) := by decide +kernel
theorem dX2_run_63 : decode cX2_run 63 = .ok (.iload_n 2, 1) := by decide +kernel
theorem dX2_run_64 : decode cX2_run 64 = .ok (.iload_n 1, 1) := by decide +kernel
theorem dX2_run_65 : decode cX2_run 65 = .ok (.if_icmp .ge 140, 3) := by decide +kernel
theorem dX2_run_68 : decode cX2_run 68 = .ok (.aload_n 0, 1) := by decide +kernel
theorem dX2_run_69 : decode cX2_run 69 = .ok (.getfield 34, 3) := by decide +kernel
theorem dX2_run_72 : decode cX2_run 72 = .ok (.iload_n 2, 1) := by decide +kernel
theorem dX2_run_73 : decode cX2_run 73 = .ok (.invokestatic 65, 3) := by decide +kernel
theorem dX2_run_76 : decode cX2_run 76 = .ok (.iconst 1, 1) := by decide +kernel
theorem dX2_run_77 : decode cX2_run 77 = .ok (.iadd, 1) := by decide +kernel
theorem dX2_run_78 : decode cX2_run 78 = .ok (.istore_n 3, 1) := by decide +kernel
theorem dX2_run_79 : decode cX2_run 79 = .ok (.aload_n 0, 1) := by decide +kernel
theorem dX2_run_80 : decode cX2_run 80 = .ok (.getfield 30, 3) := by decide +kernel
theorem dX2_run_83 : decode cX2_run 83 = .ok (.iload_n 2, 1) := by decide +kernel
theorem dX2_run_84 : decode cX2_run 84 = .ok (.aload_n 0, 1) := by decide +kernel
theorem dX2_run_85 : decode cX2_run 85 = .ok (.getfield 22, 3) := by decide +kernel
theorem dX2_run_88 : decode cX2_run 88 = .ok (.invokevirtual 69, 3) := by decide +kernel
theorem dX2_run_91 : decode cX2_run 91 = .ok (.aload_n 0, 1) := by decide +kernel
theorem dX2_run_92 : decode cX2_run 92 = .ok (.getfield 22, 3) := by decide +kernel
theorem dX2_run_95 : decode cX2_run 95 = .ok (.invokevirtual 72, 3) := by decide +kernel
theorem dX2_run_98 : decode cX2_run 98 = .ok (.iconst 0, 1) := by decide +kernel
theorem dX2_run_99 : decode cX2_run 99 = .ok (.istore 4, 2) := by decide +kernel
theorem dX2_run_101 : decode cX2_run 101 = .ok (.iload 4, 2) := by decide +kernel
theorem dX2_run_103 : decode cX2_run 103 = .ok (.aload_n 0, 1) := by decide +kernel
theorem dX2_run_104 : decode cX2_run 104 = .ok (.getfield 22, 3) := by decide +kernel
theorem dX2_run_107 : decode cX2_run 107 = .ok (.getfield 75, 3) := by decide +kernel
theorem dX2_run_110 : decode cX2_run 110 = .ok (.if_icmp .ge 89, 3) := by decide +kernel
theorem dX2_run_113 : decode cX2_run 113 = .ok (.aload_n 0, 1) := by decide +kernel
theorem dX2_run_114 : decode cX2_run 114 = .ok (.getfield 12, 3) := by decide +kernel
theorem dX2_run_117 : decode cX2_run 117 = .ok (.aload_n 0, 1) := by decide +kernel
theorem dX2_run_118 : decode cX2_run 118 = .ok (.getfield 22, 3) := by decide +kernel
theorem dX2_run_121 : decode cX2_run 121 = .ok (.invokevirtual 50, 3) := by decide +kernel
theorem dX2_run_124 : decode cX2_run 124 = .ok (.aload_n 0, 1) := by decide +kernel
theorem dX2_run_125 : decode cX2_run 125 = .ok (.getfield 12, 3) := by decide +kernel
theorem dX2_run_128 : decode cX2_run 128 = .ok (.aload_n 0, 1) := by decide +kernel
theorem dX2_run_129 : decode cX2_run 129 = .ok (.getfield 22, 3) := by decide +kernel
theorem dX2_run_132 : decode cX2_run 132 = .ok (.iload 4, 2) := by decide +kernel
theorem dX2_run_134 : decode cX2_run 134 = .ok (.invokevirtual 78, 3) := by decide +kernel
theorem dX2_run_137 : decode cX2_run 137 = .ok (.invokevirtual 82, 3) := by decide +kernel
theorem dX2_run_140 : decode cX2_run 140 = .ok (.aload_n 0, 1) := by decide +kernel
theorem dX2_run_141 : decode cX2_run 141 = .ok (.getfield 30, 3) := by decide +kernel
theorem dX2_run_144 : decode cX2_run 144 = .ok (.aload_n 0, 1) := by decide +kernel
theorem dX2_run_145 : decode cX2_run 145 = .ok (.getfield 18, 3) := by decide +kernel
theorem dX2_run_148 : decode cX2_run 148 = .ok (.aload_n 0, 1) := by decide +kernel
theorem dX2_run_149 : decode cX2_run 149 = .ok (.getfield 12, 3) := by decide +kernel
theorem dX2_run_152 : decode cX2_run 152 = .ok (.invokevirtual 54, 3) := by decide +kernel
theorem dX2_run_155 : decode cX2_run 155 = .ok (.aload_n 0, 1) := by decide +kernel
theorem dX2_run_156 : decode cX2_run 156 = .ok (.invokevirtual 85, 3) := by decide +kernel
theorem dX2_run_159 : decode cX2_run 159 = .ok (.ifCond .eq 6, 3) := by decide +kernel
theorem dX2_run_162 : decode cX2_run 162 = .ok (.goto 31, 3) := by decide +kernel
theorem dX2_run_165 : decode cX2_run 165 = .ok (.aload_n 0, 1) := by decide +kernel
theorem dX2_run_166 : decode cX2_run 166 = .ok (.getfield 18, 3) := by decide +kernel
theorem dX2_run_169 : decode cX2_run 169 = .ok (.iload_n 1, 1) := by decide +kernel
theorem dX2_run_170 : decode cX2_run 170 = .ok (.if_icmp .lt 6, 3) := by decide +kernel
theorem dX2_run_173 : decode cX2_run 173 = .ok (.bipush (-2), 2) := by decide +kernel
theorem dX2_run_175 : decode cX2_run 175 = .ok (.ireturn, 1) := by decide +kernel
theorem dX2_run_176 : decode cX2_run 176 = .ok (.aload_n 0, 1) := by decide +kernel
theorem dX2_run_177 : decode cX2_run 177 = .ok (.iload_n 3, 1) := by decide +kernel
theorem dX2_run_178 : decode cX2_run 178 = .ok (.invokevirtual 58, 3) := by decide +kernel
theorem dX2_run_181 : decode cX2_run 181 = .ok (.aload_n 0, 1) := by decide +kernel
theorem dX2_run_182 : decode cX2_run 182 = .ok (.getfield 12, 3) := by decide +kernel
theorem dX2_run_185 : decode cX2_run 185 = .ok (.invokevirtual 61, 3) := by decide +kernel
theorem dX2_run_188 : decode cX2_run 188 = .ok (.ifCond .eq 5, 3) := by decide +kernel
theorem dX2_run_191 : decode cX2_run 191 = .ok (.iload_n 3, 1) := by decide +kernel
theorem dX2_run_192 : decode cX2_run 192 = .ok (.ireturn, 1) := by decide +kernel
theorem dX2_run_193 : decode cX2_run 193 = .ok (.iinc 4 1, 3) := by decide +kernel
theorem dX2_run_196 : decode cX2_run 196 = .ok (.goto (-95), 3) := by decide +kernel
theorem dX2_run_199 : decode cX2_run 199 = .ok (.iinc 2 1, 3) := by decide +kernel
theorem dX2_run_202 : decode cX2_run 202 = .ok (.goto (-147), 3) := by decide +kernel
theorem dX2_run_205 : decode cX2_run 205 = .ok (.iconst (-1), 1) := by decide +kernel
theorem dX2_run_206 : decode cX2_run 206 = .ok (.ireturn, 1) := by decide +kernel
theorem dX2_isKnownAlready_0 : decode cX2_isKnownAlready 0 = .ok (.aload_n 0, 1) := by decide +kernel
theorem dX2_isKnownAlready_1 : decode cX2_isKnownAlready 1 = .ok (.getfield 38, 3) := by decide +kernel
theorem dX2_isKnownAlready_4 : decode cX2_isKnownAlready 4 = .ok (.aload_n 0, 1) := by decide +kernel
theorem dX2_isKnownAlready_5 : decode cX2_isKnownAlready 5 = .ok (.getfield 30, 3) := by decide +kernel
theorem dX2_isKnownAlready_8 : decode cX2_isKnownAlready 8 = .ok (.aload_n 0, 1) := by decide +kernel
theorem dX2_isKnownAlready_9 : decode cX2_isKnownAlready 9 = .ok (.getfield 18, 3) := by decide +kernel
theorem dX2_isKnownAlready_12 : decode cX2_isKnownAlready 12 = .ok (.invokevirtual 88, 3) := by decide +kernel
theorem dX2_isKnownAlready_15 : decode cX2_isKnownAlready 15 = .ok (.invokestatic 65, 3) := by decide +kernel
theorem dX2_isKnownAlready_18 : decode cX2_isKnownAlready 18 = .ok (.istore_n 1, 1) := by decide +kernel
theorem dX2_isKnownAlready_19 : decode cX2_isKnownAlready 19 = .ok (.iconst 0, 1) := by decide +kernel
theorem dX2_isKnownAlready_20 : decode cX2_isKnownAlready 20 = .ok (.istore_n 2, 1) := by decide +kernel
theorem dX2_isKnownAlready_21 : decode cX2_isKnownAlready 21 = .ok (.iload_n 2, 1) := by decide +kernel
theorem dX2_isKnownAlready_22 : decode cX2_isKnownAlready 22 = .ok (.sipush 400, 3) := by decide +kernel
theorem dX2_isKnownAlready_25 : decode cX2_isKnownAlready 25 = .ok (.if_icmp .ge 40, 3) := by decide +kernel
theorem dX2_isKnownAlready_28 : decode cX2_isKnownAlready 28 = .ok (.iload_n 1, 1) := by decide +kernel
theorem dX2_isKnownAlready_29 : decode cX2_isKnownAlready 29 = .ok (.iconst (-1), 1) := by decide +kernel
theorem dX2_isKnownAlready_30 : decode cX2_isKnownAlready 30 = .ok (.if_icmp .eq 35, 3) := by decide +kernel
theorem dX2_isKnownAlready_33 : decode cX2_isKnownAlready 33 = .ok (.aload_n 0, 1) := by decide +kernel
theorem dX2_isKnownAlready_34 : decode cX2_isKnownAlready 34 = .ok (.getfield 30, 3) := by decide +kernel
theorem dX2_isKnownAlready_37 : decode cX2_isKnownAlready 37 = .ok (.iload_n 1, 1) := by decide +kernel
theorem dX2_isKnownAlready_38 : decode cX2_isKnownAlready 38 = .ok (.aload_n 0, 1) := by decide +kernel
theorem dX2_isKnownAlready_39 : decode cX2_isKnownAlready 39 = .ok (.getfield 18, 3) := by decide +kernel
theorem dX2_isKnownAlready_42 : decode cX2_isKnownAlready 42 = .ok (.invokevirtual 91, 3) := by decide +kernel
theorem dX2_isKnownAlready_45 : decode cX2_isKnownAlready 45 = .ok (.ifCond .eq 5, 3) := by decide +kernel
theorem dX2_isKnownAlready_48 : decode cX2_isKnownAlready 48 = .ok (.iconst 1, 1) := by decide +kernel
theorem dX2_isKnownAlready_49 : decode cX2_isKnownAlready 49 = .ok (.ireturn, 1) := by decide +kernel
theorem dX2_isKnownAlready_50 : decode cX2_isKnownAlready 50 = .ok (.aload_n 0, 1) := by decide +kernel
theorem dX2_isKnownAlready_51 : decode cX2_isKnownAlready 51 = .ok (.getfield 41, 3) := by decide +kernel
theorem dX2_isKnownAlready_54 : decode cX2_isKnownAlready 54 = .ok (.iload_n 1, 1) := by decide +kernel
theorem dX2_isKnownAlready_55 : decode cX2_isKnownAlready 55 = .ok (.invokestatic 65, 3) := by decide +kernel
theorem dX2_isKnownAlready_58 : decode cX2_isKnownAlready 58 = .ok (.istore_n 1, 1) := by decide +kernel
theorem dX2_isKnownAlready_59 : decode cX2_isKnownAlready 59 = .ok (.iinc 2 1, 3) := by decide +kernel
theorem dX2_isKnownAlready_62 : decode cX2_isKnownAlready 62 = .ok (.goto (-41), 3) := by decide +kernel
theorem dX2_isKnownAlready_65 : decode cX2_isKnownAlready 65 = .ok (.iconst 0, 1) := by decide +kernel
theorem dX2_isKnownAlready_66 : decode cX2_isKnownAlready 66 = .ok (.ireturn, 1) := by decide +kernel
theorem dX2_makeKnown_0 : decode cX2_makeKnown 0 = .ok (.aload_n 0, 1) := by decide +kernel
theorem dX2_makeKnown_1 : decode cX2_makeKnown 1 = .ok (.getfield 30, 3) := by decide +kernel
theorem dX2_makeKnown_4 : decode cX2_makeKnown 4 = .ok (.aload_n 0, 1) := by decide +kernel
theorem dX2_makeKnown_5 : decode cX2_makeKnown 5 = .ok (.getfield 18, 3) := by decide +kernel
theorem dX2_makeKnown_8 : decode cX2_makeKnown 8 = .ok (.invokevirtual 88, 3) := by decide +kernel
theorem dX2_makeKnown_11 : decode cX2_makeKnown 11 = .ok (.istore_n 2, 1) := by decide +kernel
theorem dX2_makeKnown_12 : decode cX2_makeKnown 12 = .ok (.aload_n 0, 1) := by decide +kernel
theorem dX2_makeKnown_13 : decode cX2_makeKnown 13 = .ok (.getfield 34, 3) := by decide +kernel
theorem dX2_makeKnown_16 : decode cX2_makeKnown 16 = .ok (.aload_n 0, 1) := by decide +kernel
theorem dX2_makeKnown_17 : decode cX2_makeKnown 17 = .ok (.getfield 18, 3) := by decide +kernel
theorem dX2_makeKnown_20 : decode cX2_makeKnown 20 = .ok (.iload_n 1, 1) := by decide +kernel
theorem dX2_makeKnown_21 : decode cX2_makeKnown 21 = .ok (.invokestatic 95, 3) := by decide +kernel
theorem dX2_makeKnown_24 : decode cX2_makeKnown 24 = .ok (.aload_n 0, 1) := by decide +kernel
theorem dX2_makeKnown_25 : decode cX2_makeKnown 25 = .ok (.getfield 41, 3) := by decide +kernel
theorem dX2_makeKnown_28 : decode cX2_makeKnown 28 = .ok (.aload_n 0, 1) := by decide +kernel
theorem dX2_makeKnown_29 : decode cX2_makeKnown 29 = .ok (.getfield 18, 3) := by decide +kernel
theorem dX2_makeKnown_32 : decode cX2_makeKnown 32 = .ok (.aload_n 0, 1) := by decide +kernel
theorem dX2_makeKnown_33 : decode cX2_makeKnown 33 = .ok (.getfield 38, 3) := by decide +kernel
theorem dX2_makeKnown_36 : decode cX2_makeKnown 36 = .ok (.iload_n 2, 1) := by decide +kernel
theorem dX2_makeKnown_37 : decode cX2_makeKnown 37 = .ok (.invokestatic 65, 3) := by decide +kernel
theorem dX2_makeKnown_40 : decode cX2_makeKnown 40 = .ok (.invokestatic 95, 3) := by decide +kernel
theorem dX2_makeKnown_43 : decode cX2_makeKnown 43 = .ok (.aload_n 0, 1) := by decide +kernel
theorem dX2_makeKnown_44 : decode cX2_makeKnown 44 = .ok (.getfield 38, 3) := by decide +kernel
theorem dX2_makeKnown_47 : decode cX2_makeKnown 47 = .ok (.iload_n 2, 1) := by decide +kernel
theorem dX2_makeKnown_48 : decode cX2_makeKnown 48 = .ok (.aload_n 0, 1) := by decide +kernel
theorem dX2_makeKnown_49 : decode cX2_makeKnown 49 = .ok (.getfield 18, 3) := by decide +kernel
theorem dX2_makeKnown_52 : decode cX2_makeKnown 52 = .ok (.invokestatic 95, 3) := by decide +kernel
theorem dX2_makeKnown_55 : decode cX2_makeKnown 55 = .ok (.aload_n 0, 1) := by decide +kernel
theorem dX2_makeKnown_56 : decode cX2_makeKnown 56 = .ok (.dup, 1) := by decide +kernel
theorem dX2_makeKnown_57 : decode cX2_makeKnown 57 = .ok (.getfield 18, 3) := by decide +kernel
theorem dX2_makeKnown_60 : decode cX2_makeKnown 60 = .ok (.iconst 1, 1) := by decide +kernel
theorem dX2_makeKnown_61 : decode cX2_makeKnown 61 = .ok (.iadd, 1) := by decide +kernel
theorem dX2_makeKnown_62 : decode cX2_makeKnown 62 = .ok (.putfield 18, 3) := by decide +kernel
theorem dX2_makeKnown_65 : decode cX2_makeKnown 65 = .ok (.return_, 1) := by decide +kernel
theorem dX3_init_0 : decode cX3_init 0 = .ok (.aload_n 0, 1) := by decide +kernel
theorem dX3_init_1 : decode cX3_init 1 = .ok (.invokespecial 3, 3) := by decide +kernel
theorem dX3_init_4 : decode cX3_init 4 = .ok (.iload_n 1, 1) := by decide +kernel
theorem dX3_init_5 : decode cX3_init 5 = .ok (.iconst 0, 1) := by decide +kernel
theorem dX3_init_6 : decode cX3_init 6 = .ok (.invokestatic 9, 3) := by decide +kernel
theorem dX3_init_9 : decode cX3_init 9 = .ok (.istore_n 2, 1) := by decide +kernel
theorem dX3_init_10 : decode cX3_init 10 = .ok (.aload_n 0, 1) := by decide +kernel
theorem dX3_init_11 : decode cX3_init 11 = .ok (.iload_n 2, 1) := by decide +kernel
theorem dX3_init_12 : decode cX3_init 12 = .ok (.newarray .long, 2) := by decide +kernel
theorem dX3_init_14 : decode cX3_init 14 = .ok (.putfield 15, 3) := by decide +kernel
theorem dX3_init_17 : decode cX3_init 17 = .ok (.aload_n 0, 1) := by decide +kernel
theorem dX3_init_18 : decode cX3_init 18 = .ok (.iload_n 2, 1) := by decide +kernel
theorem dX3_init_19 : decode cX3_init 19 = .ok (.newarray .long, 2) := by decide +kernel
theorem dX3_init_21 : decode cX3_init 21 = .ok (.putfield 21, 3) := by decide +kernel
theorem dX3_init_24 : decode cX3_init 24 = .ok (.aload_n 0, 1) := by decide +kernel
theorem dX3_init_25 : decode cX3_init 25 = .ok (.iload_n 2, 1) := by decide +kernel
theorem dX3_init_26 : decode cX3_init 26 = .ok (.newarray .long, 2) := by decide +kernel
theorem dX3_init_28 : decode cX3_init 28 = .ok (.putfield 24, 3) := by decide +kernel
theorem dX3_init_31 : decode cX3_init 31 = .ok (.return_, 1) := by decide +kernel
theorem dX3_keep_0 : decode cX3_keep 0 = .ok (.aload_n 0, 1) := by decide +kernel
theorem dX3_keep_1 : decode cX3_keep 1 = .ok (.iload_n 1, 1) := by decide +kernel
theorem dX3_keep_2 : decode cX3_keep 2 = .ok (.invokevirtual 27, 3) := by decide +kernel
theorem dX3_keep_5 : decode cX3_keep 5 = .ok (.ifCond .ne 4, 3) := by decide +kernel
theorem dX3_keep_8 : decode cX3_keep 8 = .ok (.return_, 1) := by decide +kernel
theorem dX3_keep_9 : decode cX3_keep 9 = .ok (.aload_n 0, 1) := by decide +kernel
theorem dX3_keep_10 : decode cX3_keep 10 = .ok (.getfield 15, 3) := by decide +kernel
theorem dX3_keep_13 : decode cX3_keep 13 = .ok (.iload_n 1, 1) := by decide +kernel
theorem dX3_keep_14 : decode cX3_keep 14 = .ok (.aload_n 2, 1) := by decide +kernel
theorem dX3_keep_15 : decode cX3_keep 15 = .ok (.aload_n 2, 1) := by decide +kernel
theorem dX3_keep_16 : decode cX3_keep 16 = .ok (.getfield 31, 3) := by decide +kernel
theorem dX3_keep_19 : decode cX3_keep 19 = .ok (.iconst 0, 1) := by decide +kernel
theorem dX3_keep_20 : decode cX3_keep 20 = .ok (.bipush 8, 2) := by decide +kernel
theorem dX3_keep_22 : decode cX3_keep 22 = .ok (.invokevirtual 37, 3) := by decide +kernel
theorem dX3_keep_25 : decode cX3_keep 25 = .ok (.lastore, 1) := by decide +kernel
theorem dX3_keep_26 : decode cX3_keep 26 = .ok (.aload_n 0, 1) := by decide +kernel
theorem dX3_keep_27 : decode cX3_keep 27 = .ok (.getfield 21, 3) := by decide +kernel
theorem dX3_keep_30 : decode cX3_keep 30 = .ok (.iload_n 1, 1) := by decide +kernel
theorem dX3_keep_31 : decode cX3_keep 31 = .ok (.aload_n 2, 1) := by decide +kernel
theorem dX3_keep_32 : decode cX3_keep 32 = .ok (.aload_n 2, 1) := by decide +kernel
theorem dX3_keep_33 : decode cX3_keep 33 = .ok (.getfield 41, 3) := by decide +kernel
theorem dX3_keep_36 : decode cX3_keep 36 = .ok (.bipush 8, 2) := by decide +kernel
theorem dX3_keep_38 : decode cX3_keep 38 = .ok (.bipush 16, 2) := by decide +kernel
theorem dX3_keep_40 : decode cX3_keep 40 = .ok (.invokevirtual 37, 3) := by decide +kernel
theorem dX3_keep_43 : decode cX3_keep 43 = .ok (.lastore, 1) := by decide +kernel
theorem dX3_keep_44 : decode cX3_keep 44 = .ok (.aload_n 0, 1) := by decide +kernel
theorem dX3_keep_45 : decode cX3_keep 45 = .ok (.getfield 24, 3) := by decide +kernel
theorem dX3_keep_48 : decode cX3_keep 48 = .ok (.iload_n 1, 1) := by decide +kernel
theorem dX3_keep_49 : decode cX3_keep 49 = .ok (.aload_n 2, 1) := by decide +kernel
theorem dX3_keep_50 : decode cX3_keep 50 = .ok (.invokevirtual 44, 3) := by decide +kernel
theorem dX3_keep_53 : decode cX3_keep 53 = .ok (.lastore, 1) := by decide +kernel
theorem dX3_keep_54 : decode cX3_keep 54 = .ok (.return_, 1) := by decide +kernel
theorem dX3_fetch_0 : decode cX3_fetch 0 = .ok (.aload_n 0, 1) := by decide +kernel
theorem dX3_fetch_1 : decode cX3_fetch 1 = .ok (.iload_n 1, 1) := by decide +kernel
theorem dX3_fetch_2 : decode cX3_fetch 2 = .ok (.invokevirtual 27, 3) := by decide +kernel
theorem dX3_fetch_5 : decode cX3_fetch 5 = .ok (.ifCond .ne 4, 3) := by decide +kernel
theorem dX3_fetch_8 : decode cX3_fetch 8 = .ok (.return_, 1) := by decide +kernel
theorem dX3_fetch_9 : decode cX3_fetch 9 = .ok (.aload_n 2, 1) := by decide +kernel
theorem dX3_fetch_10 : decode cX3_fetch 10 = .ok (.aload_n 2, 1) := by decide +kernel
theorem dX3_fetch_11 : decode cX3_fetch 11 = .ok (.aload_n 0, 1) := by decide +kernel
theorem dX3_fetch_12 : decode cX3_fetch 12 = .ok (.getfield 15, 3) := by decide +kernel
theorem dX3_fetch_15 : decode cX3_fetch 15 = .ok (.iload_n 1, 1) := by decide +kernel
theorem dX3_fetch_16 : decode cX3_fetch 16 = .ok (.laload, 1) := by decide +kernel
theorem dX3_fetch_17 : decode cX3_fetch 17 = .ok (.iconst 0, 1) := by decide +kernel
theorem dX3_fetch_18 : decode cX3_fetch 18 = .ok (.bipush 8, 2) := by decide +kernel
theorem dX3_fetch_20 : decode cX3_fetch 20 = .ok (.invokevirtual 48, 3) := by decide +kernel
theorem dX3_fetch_23 : decode cX3_fetch 23 = .ok (.putfield 31, 3) := by decide +kernel
theorem dX3_fetch_26 : decode cX3_fetch 26 = .ok (.aload_n 2, 1) := by decide +kernel
theorem dX3_fetch_27 : decode cX3_fetch 27 = .ok (.aload_n 2, 1) := by decide +kernel
theorem dX3_fetch_28 : decode cX3_fetch 28 = .ok (.aload_n 0, 1) := by decide +kernel
theorem dX3_fetch_29 : decode cX3_fetch 29 = .ok (.getfield 21, 3) := by decide +kernel
theorem dX3_fetch_32 : decode cX3_fetch 32 = .ok (.iload_n 1, 1) := by decide +kernel
theorem dX3_fetch_33 : decode cX3_fetch 33 = .ok (.laload, 1) := by decide +kernel
theorem dX3_fetch_34 : decode cX3_fetch 34 = .ok (.bipush 8, 2) := by decide +kernel
theorem dX3_fetch_36 : decode cX3_fetch 36 = .ok (.bipush 16, 2) := by decide +kernel
theorem dX3_fetch_38 : decode cX3_fetch 38 = .ok (.invokevirtual 48, 3) := by decide +kernel
theorem dX3_fetch_41 : decode cX3_fetch 41 = .ok (.putfield 41, 3) := by decide +kernel
theorem dX3_fetch_44 : decode cX3_fetch 44 = .ok (.aload_n 2, 1) := by decide +kernel
theorem dX3_fetch_45 : decode cX3_fetch 45 = .ok (.aload_n 0, 1) := by decide +kernel
theorem dX3_fetch_46 : decode cX3_fetch 46 = .ok (.getfield 24, 3) := by decide +kernel
theorem dX3_fetch_49 : decode cX3_fetch 49 = .ok (.iload_n 1, 1) := by decide +kernel
theorem dX3_fetch_50 : decode cX3_fetch 50 = .ok (.laload, 1) := by decide +kernel
theorem dX3_fetch_51 : decode cX3_fetch 51 = .ok (.invokevirtual 52, 3) := by decide +kernel
theorem dX3_fetch_54 : decode cX3_fetch 54 = .ok (.return_, 1) := by decide +kernel
theorem dX3_areSame_0 : decode cX3_areSame 0 = .ok (.aload_n 0, 1) := by decide +kernel
theorem dX3_areSame_1 : decode cX3_areSame 1 = .ok (.iload_n 1, 1) := by decide +kernel
theorem dX3_areSame_2 : decode cX3_areSame 2 = .ok (.invokevirtual 27, 3) := by decide +kernel
theorem dX3_areSame_5 : decode cX3_areSame 5 = .ok (.ifCond .eq 47, 3) := by decide +kernel
theorem dX3_areSame_8 : decode cX3_areSame 8 = .ok (.aload_n 0, 1) := by decide +kernel
theorem dX3_areSame_9 : decode cX3_areSame 9 = .ok (.iload_n 2, 1) := by decide +kernel
theorem dX3_areSame_10 : decode cX3_areSame 10 = .ok (.invokevirtual 27, 3) := by decide +kernel
theorem dX3_areSame_13 : decode cX3_areSame 13 = .ok (.ifCond .eq 39, 3) := by decide +kernel
theorem dX3_areSame_16 : decode cX3_areSame 16 = .ok (.aload_n 0, 1) := by decide +kernel
theorem dX3_areSame_17 : decode cX3_areSame 17 = .ok (.getfield 15, 3) := by decide +kernel
theorem dX3_areSame_20 : decode cX3_areSame 20 = .ok (.iload_n 1, 1) := by decide +kernel
theorem dX3_areSame_21 : decode cX3_areSame 21 = .ok (.laload, 1) := by decide +kernel
theorem dX3_areSame_22 : decode cX3_areSame 22 = .ok (.aload_n 0, 1) := by decide +kernel
theorem dX3_areSame_23 : decode cX3_areSame 23 = .ok (.getfield 15, 3) := by decide +kernel
theorem dX3_areSame_26 : decode cX3_areSame 26 = .ok (.iload_n 2, 1) := by decide +kernel
theorem dX3_areSame_27 : decode cX3_areSame 27 = .ok (.laload, 1) := by decide +kernel
theorem dX3_areSame_28 : decode cX3_areSame 28 = .ok (.lcmp, 1) := by decide +kernel
theorem dX3_areSame_29 : decode cX3_areSame 29 = .ok (.ifCond .ne 23, 3) := by decide +kernel
theorem dX3_areSame_32 : decode cX3_areSame 32 = .ok (.aload_n 0, 1) := by decide +kernel
theorem dX3_areSame_33 : decode cX3_areSame 33 = .ok (.getfield 21, 3) := by decide +kernel
theorem dX3_areSame_36 : decode cX3_areSame 36 = .ok (.iload_n 1, 1) := by decide +kernel
theorem dX3_areSame_37 : decode cX3_areSame 37 = .ok (.laload, 1) := by decide +kernel
theorem dX3_areSame_38 : decode cX3_areSame 38 = .ok (.aload_n 0, 1) := by decide +kernel
theorem dX3_areSame_39 : decode cX3_areSame 39 = .ok (.getfield 21, 3) := by decide +kernel
theorem dX3_areSame_42 : decode cX3_areSame 42 = .ok (.iload_n 2, 1) := by decide +kernel
theorem dX3_areSame_43 : decode cX3_areSame 43 = .ok (.laload, 1) := by decide +kernel
theorem dX3_areSame_44 : decode cX3_areSame 44 = .ok (.lcmp, 1) := by decide +kernel
theorem dX3_areSame_45 : decode cX3_areSame 45 = .ok (.ifCond .ne 7, 3) := by decide +kernel
theorem dX3_areSame_48 : decode cX3_areSame 48 = .ok (.iconst 1, 1) := by decide +kernel
theorem dX3_areSame_49 : decode cX3_areSame 49 = .ok (.goto 4, 3) := by decide +kernel
theorem dX3_areSame_52 : decode cX3_areSame 52 = .ok (.iconst 0, 1) := by decide +kernel
theorem dX3_areSame_53 : decode cX3_areSame 53 = .ok (.ireturn, 1) := by decide +kernel
theorem dX3_bucketOf_0 : decode cX3_bucketOf 0 = .ok (.aload_n 0, 1) := by decide +kernel
theorem dX3_bucketOf_1 : decode cX3_bucketOf 1 = .ok (.iload_n 1, 1) := by decide +kernel
theorem dX3_bucketOf_2 : decode cX3_bucketOf 2 = .ok (.invokevirtual 27, 3) := by decide +kernel
theorem dX3_bucketOf_5 : decode cX3_bucketOf 5 = .ok (.ifCond .ne 5, 3) := by decide +kernel
theorem dX3_bucketOf_8 : decode cX3_bucketOf 8 = .ok (.iconst 0, 1) := by decide +kernel
theorem dX3_bucketOf_9 : decode cX3_bucketOf 9 = .ok (.ireturn, 1) := by decide +kernel
theorem dX3_bucketOf_10 : decode cX3_bucketOf 10 = .ok (.aload_n 0, 1) := by decide +kernel
theorem dX3_bucketOf_11 : decode cX3_bucketOf 11 = .ok (.getfield 15, 3) := by decide +kernel
theorem dX3_bucketOf_14 : decode cX3_bucketOf 14 = .ok (.iload_n 1, 1) := by decide +kernel
theorem dX3_bucketOf_15 : decode cX3_bucketOf 15 = .ok (.laload, 1) := by decide +kernel
theorem dX3_bucketOf_16 : decode cX3_bucketOf 16 = .ok (.ldc2_w 56, 3) := by decide +kernel
theorem dX3_bucketOf_19 : decode cX3_bucketOf 19 = .ok (.lmul, 1) := by decide +kernel
theorem dX3_bucketOf_20 : decode cX3_bucketOf 20 = .ok (.aload_n 0, 1) := by decide +kernel
theorem dX3_bucketOf_21 : decode cX3_bucketOf 21 = .ok (.getfield 21, 3) := by decide +kernel
theorem dX3_bucketOf_24 : decode cX3_bucketOf 24 = .ok (.iload_n 1, 1) := by decide +kernel
theorem dX3_bucketOf_25 : decode cX3_bucketOf 25 = .ok (.laload, 1) := by decide +kernel
theorem dX3_bucketOf_26 : decode cX3_bucketOf 26 = .ok (.ladd, 1) := by decide +kernel
theorem dX3_bucketOf_27 : decode cX3_bucketOf 27 = .ok (.ldc2_w 58, 3) := by decide +kernel
theorem dX3_bucketOf_30 : decode cX3_bucketOf 30 = .ok (.lmul, 1) := by decide +kernel
theorem dX3_bucketOf_31 : decode cX3_bucketOf 31 = .ok (.lstore_n 2, 1) := by decide +kernel
theorem dX3_bucketOf_32 : decode cX3_bucketOf 32 = .ok (.lload_n 2, 1) := by decide +kernel
theorem dX3_bucketOf_33 : decode cX3_bucketOf 33 = .ok (.bipush 40, 2) := by decide +kernel
theorem dX3_bucketOf_35 : decode cX3_bucketOf 35 = .ok (.lushr, 1) := by decide +kernel
theorem dX3_bucketOf_36 : decode cX3_bucketOf 36 = .ok (.l2i, 1) := by decide +kernel
theorem dX3_bucketOf_37 : decode cX3_bucketOf 37 = .ok (.sipush 255, 3) := by decide +kernel
theorem dX3_bucketOf_40 : decode cX3_bucketOf 40 = .ok (.iand, 1) := by decide +kernel
theorem dX3_bucketOf_41 : decode cX3_bucketOf 41 = .ok (.ireturn, 1) := by decide +kernel
theorem dX3_isRow_0 : decode cX3_isRow 0 = .ok (.iload_n 1, 1) := by decide +kernel
theorem dX3_isRow_1 : decode cX3_isRow 1 = .ok (.ifCond .lt 34, 3) := by decide +kernel
theorem dX3_isRow_4 : decode cX3_isRow 4 = .ok (.iload_n 1, 1) := by decide +kernel
theorem dX3_isRow_5 : decode cX3_isRow 5 = .ok (.aload_n 0, 1) := by decide +kernel
theorem dX3_isRow_6 : decode cX3_isRow 6 = .ok (.getfield 15, 3) := by decide +kernel
theorem dX3_isRow_9 : decode cX3_isRow 9 = .ok (.arraylength, 1) := by decide +kernel
theorem dX3_isRow_10 : decode cX3_isRow 10 = .ok (.if_icmp .ge 25, 3) := by decide +kernel
theorem dX3_isRow_13 : decode cX3_isRow 13 = .ok (.iload_n 1, 1) := by decide +kernel
theorem dX3_isRow_14 : decode cX3_isRow 14 = .ok (.aload_n 0, 1) := by decide +kernel
theorem dX3_isRow_15 : decode cX3_isRow 15 = .ok (.getfield 21, 3) := by decide +kernel
theorem dX3_isRow_18 : decode cX3_isRow 18 = .ok (.arraylength, 1) := by decide +kernel
theorem dX3_isRow_19 : decode cX3_isRow 19 = .ok (.if_icmp .ge 16, 3) := by decide +kernel
theorem dX3_isRow_22 : decode cX3_isRow 22 = .ok (.iload_n 1, 1) := by decide +kernel
theorem dX3_isRow_23 : decode cX3_isRow 23 = .ok (.aload_n 0, 1) := by decide +kernel
theorem dX3_isRow_24 : decode cX3_isRow 24 = .ok (.getfield 24, 3) := by decide +kernel
theorem dX3_isRow_27 : decode cX3_isRow 27 = .ok (.arraylength, 1) := by decide +kernel
theorem dX3_isRow_28 : decode cX3_isRow 28 = .ok (.if_icmp .ge 7, 3) := by decide +kernel
theorem dX3_isRow_31 : decode cX3_isRow 31 = .ok (.iconst 1, 1) := by decide +kernel
theorem dX3_isRow_32 : decode cX3_isRow 32 = .ok (.goto 4, 3) := by decide +kernel
theorem dX3_isRow_35 : decode cX3_isRow 35 = .ok (.iconst 0, 1) := by decide +kernel
theorem dX3_isRow_36 : decode cX3_isRow 36 = .ok (.ireturn, 1) := by decide +kernel
theorem dX4_init_0 : decode cX4_init 0 = .ok (.aload_n 0, 1) := by decide +kernel
theorem dX4_init_1 : decode cX4_init 1 = .ok (.invokespecial 3, 3) := by decide +kernel
theorem dX4_init_4 : decode cX4_init 4 = .ok (.aload_n 0, 1) := by decide +kernel
theorem dX4_init_5 : decode cX4_init 5 = .ok (.new 9, 3) := by decide +kernel
theorem dX4_init_8 : decode cX4_init 8 = .ok (.dup, 1) := by decide +kernel
theorem dX4_init_9 : decode cX4_init 9 = .ok (.invokespecial 11, 3) := by decide +kernel
theorem dX4_init_12 : decode cX4_init 12 = .ok (.putfield 12, 3) := by decide +kernel
theorem dX4_init_15 : decode cX4_init 15 = .ok (.aload_n 0, 1) := by decide +kernel
theorem dX4_init_16 : decode cX4_init 16 = .ok (.bipush 16, 2) := by decide +kernel
theorem dX4_init_18 : decode cX4_init 18 = .ok (.newarray .int, 2) := by decide +kernel
theorem dX4_init_20 : decode cX4_init 20 = .ok (.putfield 18, 3) := by decide +kernel
theorem dX4_init_23 : decode cX4_init 23 = .ok (.aload_n 0, 1) := by decide +kernel
theorem dX4_init_24 : decode cX4_init 24 = .ok (.bipush 10, 2) := by decide +kernel
theorem dX4_init_26 : decode cX4_init 26 = .ok (.newarray .int, 2) := by decide +kernel
theorem dX4_init_28 : decode cX4_init 28 = .ok (.putfield 22, 3) := by decide +kernel
theorem dX4_init_31 : decode cX4_init 31 = .ok (.aload_n 0, 1) := by decide +kernel
theorem dX4_init_32 : decode cX4_init 32 = .ok (.sipush 160, 3) := by decide +kernel
theorem dX4_init_35 : decode cX4_init 35 = .ok (.newarray .int, 2) := by decide +kernel
theorem dX4_init_37 : decode cX4_init 37 = .ok (.putfield 25, 3) := by decide +kernel
theorem dX4_init_40 : decode cX4_init 40 = .ok (.aload_n 0, 1) := by decide +kernel
theorem dX4_init_41 : decode cX4_init 41 = .ok (.iconst 0, 1) := by decide +kernel
theorem dX4_init_42 : decode cX4_init 42 = .ok (.putfield 28, 3) := by decide +kernel
theorem dX4_init_45 : decode cX4_init 45 = .ok (.aload_n 0, 1) := by decide +kernel
theorem dX4_init_46 : decode cX4_init 46 = .ok (.iconst 0, 1) := by decide +kernel
theorem dX4_init_47 : decode cX4_init 47 = .ok (.putfield 32, 3) := by decide +kernel
theorem dX4_init_50 : decode cX4_init 50 = .ok (.aload_n 0, 1) := by decide +kernel
theorem dX4_init_51 : decode cX4_init 51 = .ok (.iconst 0, 1) := by decide +kernel
theorem dX4_init_52 : decode cX4_init 52 = .ok (.putfield 35, 3) := by decide +kernel
theorem dX4_init_55 : decode cX4_init 55 = .ok (.return_, 1) := by decide +kernel
theorem dX4_copyFrom_0 : decode cX4_copyFrom 0 = .ok (.aload_n 0, 1) := by decide +kernel
theorem dX4_copyFrom_1 : decode cX4_copyFrom 1 = .ok (.aload_n 1, 1) := by decide +kernel
theorem dX4_copyFrom_2 : decode cX4_copyFrom 2 = .ok (.getfield 12, 3) := by decide +kernel
theorem dX4_copyFrom_5 : decode cX4_copyFrom 5 = .ok (.putfield 12, 3) := by decide +kernel
theorem dX4_copyFrom_8 : decode cX4_copyFrom 8 = .ok (.aload_n 1, 1) := by decide +kernel
theorem dX4_copyFrom_9 : decode cX4_copyFrom 9 = .ok (.getfield 18, 3) := by decide +kernel
theorem dX4_copyFrom_12 : decode cX4_copyFrom 12 = .ok (.iconst 0, 1) := by decide +kernel
theorem dX4_copyFrom_13 : decode cX4_copyFrom 13 = .ok (.aload_n 0, 1) := by decide +kernel
theorem dX4_copyFrom_14 : decode cX4_copyFrom 14 = .ok (.getfield 18, 3) := by decide +kernel
theorem dX4_copyFrom_17 : decode cX4_copyFrom 17 = .ok (.iconst 0, 1) := by decide +kernel
theorem dX4_copyFrom_18 : decode cX4_copyFrom 18 = .ok (.bipush 16, 2) := by decide +kernel
theorem dX4_copyFrom_20 : decode cX4_copyFrom 20 = .ok (.invokestatic 38, 3) := by decide +kernel
theorem dX4_copyFrom_23 : decode cX4_copyFrom 23 = .ok (.aload_n 1, 1) := by decide +kernel
theorem dX4_copyFrom_24 : decode cX4_copyFrom 24 = .ok (.getfield 22, 3) := by decide +kernel
theorem dX4_copyFrom_27 : decode cX4_copyFrom 27 = .ok (.iconst 0, 1) := by decide +kernel
theorem dX4_copyFrom_28 : decode cX4_copyFrom 28 = .ok (.aload_n 0, 1) := by decide +kernel
theorem dX4_copyFrom_29 : decode cX4_copyFrom 29 = .ok (.getfield 22, 3) := by decide +kernel
theorem dX4_copyFrom_32 : decode cX4_copyFrom 32 = .ok (.iconst 0, 1) := by decide +kernel
theorem dX4_copyFrom_33 : decode cX4_copyFrom 33 = .ok (.bipush 10, 2) := by decide +kernel
theorem dX4_copyFrom_35 : decode cX4_copyFrom 35 = .ok (.invokestatic 38, 3) := by decide +kernel
theorem dX4_copyFrom_38 : decode cX4_copyFrom 38 = .ok (.aload_n 0, 1) := by decide +kernel
theorem dX4_copyFrom_39 : decode cX4_copyFrom 39 = .ok (.aload_n 1, 1) := by decide +kernel
theorem dX4_copyFrom_40 : decode cX4_copyFrom 40 = .ok (.getfield 32, 3) := by decide +kernel
theorem dX4_copyFrom_43 : decode cX4_copyFrom 43 = .ok (.putfield 32, 3) := by decide +kernel
theorem dX4_copyFrom_46 : decode cX4_copyFrom 46 = .ok (.aload_n 0, 1) := by decide +kernel
theorem dX4_copyFrom_47 : decode cX4_copyFrom 47 = .ok (.aload_n 1, 1) := by decide +kernel
theorem dX4_copyFrom_48 : decode cX4_copyFrom 48 = .ok (.getfield 35, 3) := by decide +kernel
theorem dX4_copyFrom_51 : decode cX4_copyFrom 51 = .ok (.putfield 35, 3) := by decide +kernel
theorem dX4_copyFrom_54 : decode cX4_copyFrom 54 = .ok (.return_, 1) := by decide +kernel
theorem dX4_lay_0 : decode cX4_lay 0 = .ok (.aload_n 0, 1) := by decide +kernel
theorem dX4_lay_1 : decode cX4_lay 1 = .ok (.aload_n 1, 1) := by decide +kernel
theorem dX4_lay_2 : decode cX4_lay 2 = .ok (.putfield 12, 3) := by decide +kernel
theorem dX4_lay_5 : decode cX4_lay 5 = .ok (.aload_n 0, 1) := by decide +kernel
theorem dX4_lay_6 : decode cX4_lay 6 = .ok (.iconst 0, 1) := by decide +kernel
theorem dX4_lay_7 : decode cX4_lay 7 = .ok (.putfield 32, 3) := by decide +kernel
theorem dX4_lay_10 : decode cX4_lay 10 = .ok (.aload_n 0, 1) := by decide +kernel
theorem dX4_lay_11 : decode cX4_lay 11 = .ok (.iconst 0, 1) := by decide +kernel
theorem dX4_lay_12 : decode cX4_lay 12 = .ok (.putfield 35, 3) := by decide +kernel
theorem dX4_lay_15 : decode cX4_lay 15 = .ok (.aload_n 0, 1) := by decide +kernel
theorem dX4_lay_16 : decode cX4_lay 16 = .ok (.getfield 18, 3) := by decide +kernel
theorem dX4_lay_19 : decode cX4_lay 19 = .ok (.bipush 20, 2) := by decide +kernel
theorem dX4_lay_21 : decode cX4_lay 21 = .ok (.invokestatic 44, 3) := by decide +kernel
theorem dX4_lay_24 : decode cX4_lay 24 = .ok (.aload_n 0, 1) := by decide +kernel
theorem dX4_lay_25 : decode cX4_lay 25 = .ok (.getfield 22, 3) := by decide +kernel
theorem dX4_lay_28 : decode cX4_lay 28 = .ok (.iconst (-1), 1) := by decide +kernel
theorem dX4_lay_29 : decode cX4_lay 29 = .ok (.invokestatic 44, 3) := by decide +kernel
theorem dX4_lay_32 : decode cX4_lay 32 = .ok (.aload_n 1, 1) := by decide +kernel
theorem dX4_lay_33 : decode cX4_lay 33 = .ok (.invokevirtual 50, 3) := by decide +kernel
theorem dX4_lay_36 : decode cX4_lay 36 = .ok (.istore_n 3, 1) := by decide +kernel
theorem dX4_lay_37 : decode cX4_lay 37 = .ok (.iconst 0, 1) := by decide +kernel
theorem dX4_lay_38 : decode cX4_lay 38 = .ok (.istore 4, 2) := by decide +kernel
theorem dX4_lay_40 : decode cX4_lay 40 = .ok (.iload 4, 2) := by decide +kernel
theorem dX4_lay_42 : decode cX4_lay 42 = .ok (.aload_n 1, 1) := by decide +kernel
theorem dX4_lay_43 : decode cX4_lay 43 = .ok (.invokevirtual 54, 3) := by decide +kernel
theorem dX4_lay_46 : decode cX4_lay 46 = .ok (.if_icmp .ge 97, 3) := by decide +kernel
theorem dX4_lay_49 : decode cX4_lay 49 = .ok (.iload 4, 2) := by decide +kernel
theorem dX4_lay_51 : decode cX4_lay 51 = .ok (.iload_n 3, 1) := by decide +kernel
theorem dX4_lay_52 : decode cX4_lay 52 = .ok (.if_icmp .ge 20, 3) := by decide +kernel
theorem dX4_lay_55 : decode cX4_lay 55 = .ok (.aload_n 1, 1) := by decide +kernel
theorem dX4_lay_56 : decode cX4_lay 56 = .ok (.getfield 57, 3) := by decide +kernel
theorem dX4_lay_59 : decode cX4_lay 59 = .ok (.ifCond .le 13, 3) := by decide +kernel
theorem dX4_lay_62 : decode cX4_lay 62 = .ok (.iload 4, 2) := by decide +kernel
theorem dX4_lay_64 : decode cX4_lay 64 = .ok (.aload_n 1, 1) := by decide +kernel
theorem dX4_lay_65 : decode cX4_lay 65 = .ok (.getfield 57, 3) := by decide +kernel
theorem dX4_lay_68 : decode cX4_lay 68 = .ok (.irem, 1) := by decide +kernel
theorem dX4_lay_69 : decode cX4_lay 69 = .ok (.goto 5, 3) := by decide +kernel
theorem dX4_lay_72 : decode cX4_lay 72 = .ok (.bipush 9, 2) := by decide +kernel
theorem dX4_lay_74 : decode cX4_lay 74 = .ok (.istore 5, 2) := by decide +kernel
theorem dX4_lay_76 : decode cX4_lay 76 = .ok (.aload_n 0, 1) := by decide +kernel
theorem dX4_lay_77 : decode cX4_lay 77 = .ok (.iload 5, 2) := by decide +kernel
theorem dX4_lay_79 : decode cX4_lay 79 = .ok (.invokevirtual 60, 3) := by decide +kernel
theorem dX4_lay_82 : decode cX4_lay 82 = .ok (.istore 6, 2) := by decide +kernel
theorem dX4_lay_84 : decode cX4_lay 84 = .ok (.aload_n 1, 1) := by decide +kernel
theorem dX4_lay_85 : decode cX4_lay 85 = .ok (.getfield 64, 3) := by decide +kernel
theorem dX4_lay_88 : decode cX4_lay 88 = .ok (.ifCond .eq 31, 3) := by decide +kernel
theorem dX4_lay_91 : decode cX4_lay 91 = .ok (.iload 5, 2) := by decide +kernel
theorem dX4_lay_93 : decode cX4_lay 93 = .ok (.bipush 9, 2) := by decide +kernel
theorem dX4_lay_95 : decode cX4_lay 95 = .ok (.if_icmp .eq 24, 3) := by decide +kernel
theorem dX4_lay_98 : decode cX4_lay 98 = .ok (.iload 6, 2) := by decide +kernel
theorem dX4_lay_100 : decode cX4_lay 100 = .ok (.invokestatic 68, 3) := by decide +kernel
theorem dX4_lay_103 : decode cX4_lay 103 = .ok (.ifCond .eq 16, 3) := by decide +kernel
theorem dX4_lay_106 : decode cX4_lay 106 = .ok (.aload_n 0, 1) := by decide +kernel
theorem dX4_lay_107 : decode cX4_lay 107 = .ok (.dup, 1) := by decide +kernel
theorem dX4_lay_108 : decode cX4_lay 108 = .ok (.getfield 32, 3) := by decide +kernel
theorem dX4_lay_111 : decode cX4_lay 111 = .ok (.iconst 1, 1) := by decide +kernel
theorem dX4_lay_112 : decode cX4_lay 112 = .ok (.iload 6, 2) := by decide +kernel
theorem dX4_lay_114 : decode cX4_lay 114 = .ok (.ishl, 1) := by decide +kernel
theorem dX4_lay_115 : decode cX4_lay 115 = .ok (.ior, 1) := by decide +kernel
theorem dX4_lay_116 : decode cX4_lay 116 = .ok (.putfield 32, 3) := by decide +kernel
theorem dX4_lay_119 : decode cX4_lay 119 = .ok (.aload_n 0, 1) := by decide +kernel
theorem dX4_lay_120 : decode cX4_lay 120 = .ok (.aload_n 2, 1) := by decide +kernel
theorem dX4_lay_121 : decode cX4_lay 121 = .ok (.iload 4, 2) := by decide +kernel
theorem dX4_lay_123 : decode cX4_lay 123 = .ok (.invokevirtual 72, 3) := by decide +kernel
theorem dX4_lay_126 : decode cX4_lay 126 = .ok (.aload_n 2, 1) := by decide +kernel
theorem dX4_lay_127 : decode cX4_lay 127 = .ok (.iload 4, 2) := by decide +kernel
theorem dX4_lay_129 : decode cX4_lay 129 = .ok (.invokevirtual 72, 3) := by decide +kernel
theorem dX4_lay_132 : decode cX4_lay 132 = .ok (.iload 5, 2) := by decide +kernel
theorem dX4_lay_134 : decode cX4_lay 134 = .ok (.invokevirtual 77, 3) := by decide +kernel
theorem dX4_lay_137 : decode cX4_lay 137 = .ok (.iinc 4 1, 3) := by decide +kernel
theorem dX4_lay_140 : decode cX4_lay 140 = .ok (.goto (-100), 3) := by decide +kernel
theorem dX4_lay_143 : decode cX4_lay 143 = .ok (.return_, 1) := by decide +kernel
theorem dX4_packed_0 : decode cX4_packed 0 = .ok (.iload_n 1, 1) := by decide +kernel
theorem dX4_packed_1 : decode cX4_packed 1 = .ok (.i2l, 1) := by decide +kernel
theorem dX4_packed_2 : decode cX4_packed 2 = .ok (.lstore 4, 2) := by decide +kernel
theorem dX4_packed_4 : decode cX4_packed 4 = .ok (.iload_n 2, 1) := by decide +kernel
theorem dX4_packed_5 : decode cX4_packed 5 = .ok (.iconst 0, 1) := by decide +kernel
theorem dX4_packed_6 : decode cX4_packed 6 = .ok (.invokestatic 81, 3) := by decide +kernel
theorem dX4_packed_9 : decode cX4_packed 9 = .ok (.istore 6, 2) := by decide +kernel
theorem dX4_packed_11 : decode cX4_packed 11 = .ok (.iload 6, 2) := by decide +kernel
theorem dX4_packed_13 : decode cX4_packed 13 = .ok (.iload_n 3, 1) := by decide +kernel
theorem dX4_packed_14 : decode cX4_packed 14 = .ok (.if_icmp .ge 34, 3) := by decide +kernel
theorem dX4_packed_17 : decode cX4_packed 17 = .ok (.iload 6, 2) := by decide +kernel
theorem dX4_packed_19 : decode cX4_packed 19 = .ok (.aload_n 0, 1) := by decide +kernel
theorem dX4_packed_20 : decode cX4_packed 20 = .ok (.getfield 18, 3) := by decide +kernel
theorem dX4_packed_23 : decode cX4_packed 23 = .ok (.arraylength, 1) := by decide +kernel
theorem dX4_packed_24 : decode cX4_packed 24 = .ok (.if_icmp .ge 24, 3) := by decide +kernel
theorem dX4_packed_27 : decode cX4_packed 27 = .ok (.lload 4, 2) := by decide +kernel
theorem dX4_packed_29 : decode cX4_packed 29 = .ok (.iconst 5, 1) := by decide +kernel
theorem dX4_packed_30 : decode cX4_packed 30 = .ok (.lshl, 1) := by decide +kernel
theorem dX4_packed_31 : decode cX4_packed 31 = .ok (.aload_n 0, 1) := by decide +kernel
theorem dX4_packed_32 : decode cX4_packed 32 = .ok (.getfield 18, 3) := by decide +kernel
theorem dX4_packed_35 : decode cX4_packed 35 = .ok (.iload 6, 2) := by decide +kernel
theorem dX4_packed_37 : decode cX4_packed 37 = .ok (.iaload, 1) := by decide +kernel
theorem dX4_packed_38 : decode cX4_packed 38 = .ok (.i2l, 1) := by decide +kernel
theorem dX4_packed_39 : decode cX4_packed 39 = .ok (.lor, 1) := by decide +kernel
theorem dX4_packed_40 : decode cX4_packed 40 = .ok (.lstore 4, 2) := by decide +kernel
theorem dX4_packed_42 : decode cX4_packed 42 = .ok (.iinc 6 1, 3) := by decide +kernel
theorem dX4_packed_45 : decode cX4_packed 45 = .ok (.goto (-34), 3) := by decide +kernel
theorem dX4_packed_48 : decode cX4_packed 48 = .ok (.lload 4, 2) := by decide +kernel
theorem dX4_packed_50 : decode cX4_packed 50 = .ok (.lreturn, 1) := by decide +kernel
theorem dX4_unpacked_0 : decode cX4_unpacked 0 = .ok (.lload_n 1, 1) := by decide +kernel
theorem dX4_unpacked_1 : decode cX4_unpacked 1 = .ok (.lstore 5, 2) := by decide +kernel
theorem dX4_unpacked_3 : decode cX4_unpacked 3 = .ok (.iload 4, 2) := by decide +kernel
theorem dX4_unpacked_5 : decode cX4_unpacked 5 = .ok (.aload_n 0, 1) := by decide +kernel
theorem dX4_unpacked_6 : decode cX4_unpacked 6 = .ok (.getfield 18, 3) := by decide +kernel
theorem dX4_unpacked_9 : decode cX4_unpacked 9 = .ok (.arraylength, 1) := by decide +kernel
theorem dX4_unpacked_10 : decode cX4_unpacked 10 = .ok (.invokestatic 87, 3) := by decide +kernel
theorem dX4_unpacked_13 : decode cX4_unpacked 13 = .ok (.iconst 1, 1) := by decide +kernel
theorem dX4_unpacked_14 : decode cX4_unpacked 14 = .ok (.isub, 1) := by decide +kernel
theorem dX4_unpacked_15 : decode cX4_unpacked 15 = .ok (.istore 7, 2) := by decide +kernel
theorem dX4_unpacked_17 : decode cX4_unpacked 17 = .ok (.iload 7, 2) := by decide +kernel
theorem dX4_unpacked_19 : decode cX4_unpacked 19 = .ok (.iload_n 3, 1) := by decide +kernel
theorem dX4_unpacked_20 : decode cX4_unpacked 20 = .ok (.if_icmp .lt 34, 3) := by decide +kernel
theorem dX4_unpacked_23 : decode cX4_unpacked 23 = .ok (.iload 7, 2) := by decide +kernel
theorem dX4_unpacked_25 : decode cX4_unpacked 25 = .ok (.ifCond .lt 29, 3) := by decide +kernel
theorem dX4_unpacked_28 : decode cX4_unpacked 28 = .ok (.aload_n 0, 1) := by decide +kernel
theorem dX4_unpacked_29 : decode cX4_unpacked 29 = .ok (.getfield 18, 3) := by decide +kernel
theorem dX4_unpacked_32 : decode cX4_unpacked 32 = .ok (.iload 7, 2) := by decide +kernel
theorem dX4_unpacked_34 : decode cX4_unpacked 34 = .ok (.lload 5, 2) := by decide +kernel
theorem dX4_unpacked_36 : decode cX4_unpacked 36 = .ok (.ldc2_w 90, 3) := by decide +kernel
theorem dX4_unpacked_39 : decode cX4_unpacked 39 = .ok (.land, 1) := by decide +kernel
theorem dX4_unpacked_40 : decode cX4_unpacked 40 = .ok (.l2i, 1) := by decide +kernel
theorem dX4_unpacked_41 : decode cX4_unpacked 41 = .ok (.iastore, 1) := by decide +kernel
theorem dX4_unpacked_42 : decode cX4_unpacked 42 = .ok (.lload 5, 2) := by decide +kernel
theorem dX4_unpacked_44 : decode cX4_unpacked 44 = .ok (.iconst 5, 1) := by decide +kernel
theorem dX4_unpacked_45 : decode cX4_unpacked 45 = .ok (.lshr, 1) := by decide +kernel
theorem dX4_unpacked_46 : decode cX4_unpacked 46 = .ok (.lstore 5, 2) := by decide +kernel
theorem dX4_unpacked_48 : decode cX4_unpacked 48 = .ok (.iinc 7 (-1), 3) := by decide +kernel
theorem dX4_unpacked_51 : decode cX4_unpacked 51 = .ok (.goto (-34), 3) := by decide +kernel
theorem dX4_unpacked_54 : decode cX4_unpacked 54 = .ok (.lload 5, 2) := by decide +kernel
theorem dX4_unpacked_56 : decode cX4_unpacked 56 = .ok (.l2i, 1) := by decide +kernel
theorem dX4_unpacked_57 : decode cX4_unpacked 57 = .ok (.ireturn, 1) := by decide +kernel
theorem dX4_packedTops_0 : decode cX4_packedTops 0 = .ok (.lconst 0, 1) := by decide +kernel
theorem dX4_packedTops_1 : decode cX4_packedTops 1 = .ok (.lstore_n 1, 1) := by decide +kernel
theorem dX4_packedTops_2 : decode cX4_packedTops 2 = .ok (.iconst 0, 1) := by decide +kernel
theorem dX4_packedTops_3 : decode cX4_packedTops 3 = .ok (.istore_n 3, 1) := by decide +kernel
theorem dX4_packedTops_4 : decode cX4_packedTops 4 = .ok (.iload_n 3, 1) := by decide +kernel
theorem dX4_packedTops_5 : decode cX4_packedTops 5 = .ok (.aload_n 0, 1) := by decide +kernel
theorem dX4_packedTops_6 : decode cX4_packedTops 6 = .ok (.getfield 22, 3) := by decide +kernel
theorem dX4_packedTops_9 : decode cX4_packedTops 9 = .ok (.arraylength, 1) := by decide +kernel
theorem dX4_packedTops_10 : decode cX4_packedTops 10 = .ok (.if_icmp .ge 23, 3) := by decide +kernel
theorem dX4_packedTops_13 : decode cX4_packedTops 13 = .ok (.lload_n 1, 1) := by decide +kernel
theorem dX4_packedTops_14 : decode cX4_packedTops 14 = .ok (.iconst 5, 1) := by decide +kernel
theorem dX4_packedTops_15 : decode cX4_packedTops 15 = .ok (.lshl, 1) := by decide +kernel
theorem dX4_packedTops_16 : decode cX4_packedTops 16 = .ok (.aload_n 0, 1) := by decide +kernel
theorem dX4_packedTops_17 : decode cX4_packedTops 17 = .ok (.getfield 22, 3) := by decide +kernel
theorem dX4_packedTops_20 : decode cX4_packedTops 20 = .ok (.iload_n 3, 1) := by decide +kernel
theorem dX4_packedTops_21 : decode cX4_packedTops 21 = .ok (.iaload, 1) := by decide +kernel
theorem dX4_packedTops_22 : decode cX4_packedTops 22 = .ok (.iconst 1, 1) := by decide +kernel
theorem dX4_packedTops_23 : decode cX4_packedTops 23 = .ok (.iadd, 1) := by decide +kernel
theorem dX4_packedTops_24 : decode cX4_packedTops 24 = .ok (.i2l, 1) := by decide +kernel
theorem dX4_packedTops_25 : decode cX4_packedTops 25 = .ok (.lor, 1) := by decide +kernel
theorem dX4_packedTops_26 : decode cX4_packedTops 26 = .ok (.lstore_n 1, 1) := by decide +kernel
theorem dX4_packedTops_27 : decode cX4_packedTops 27 = .ok (.iinc 3 1, 3) := by decide +kernel
theorem dX4_packedTops_30 : decode cX4_packedTops 30 = .ok (.goto (-26), 3) := by decide +kernel
theorem dX4_packedTops_33 : decode cX4_packedTops 33 = .ok (.lload_n 1, 1) := by decide +kernel
theorem dX4_packedTops_34 : decode cX4_packedTops 34 = .ok (.lreturn, 1) := by decide +kernel
theorem dX4_unpackTops_0 : decode cX4_unpackTops 0 = .ok (.lload_n 1, 1) := by decide +kernel
theorem dX4_unpackTops_1 : decode cX4_unpackTops 1 = .ok (.lstore_n 3, 1) := by decide +kernel
theorem dX4_unpackTops_2 : decode cX4_unpackTops 2 = .ok (.aload_n 0, 1) := by decide +kernel
theorem dX4_unpackTops_3 : decode cX4_unpackTops 3 = .ok (.getfield 22, 3) := by decide +kernel
theorem dX4_unpackTops_6 : decode cX4_unpackTops 6 = .ok (.arraylength, 1) := by decide +kernel
theorem dX4_unpackTops_7 : decode cX4_unpackTops 7 = .ok (.iconst 1, 1) := by decide +kernel
theorem dX4_unpackTops_8 : decode cX4_unpackTops 8 = .ok (.isub, 1) := by decide +kernel
theorem dX4_unpackTops_9 : decode cX4_unpackTops 9 = .ok (.istore 5, 2) := by decide +kernel
theorem dX4_unpackTops_11 : decode cX4_unpackTops 11 = .ok (.iload 5, 2) := by decide +kernel
theorem dX4_unpackTops_13 : decode cX4_unpackTops 13 = .ok (.ifCond .lt 28, 3) := by decide +kernel
theorem dX4_unpackTops_16 : decode cX4_unpackTops 16 = .ok (.aload_n 0, 1) := by decide +kernel
theorem dX4_unpackTops_17 : decode cX4_unpackTops 17 = .ok (.getfield 22, 3) := by decide +kernel
theorem dX4_unpackTops_20 : decode cX4_unpackTops 20 = .ok (.iload 5, 2) := by decide +kernel
theorem dX4_unpackTops_22 : decode cX4_unpackTops 22 = .ok (.lload_n 3, 1) := by decide +kernel
theorem dX4_unpackTops_23 : decode cX4_unpackTops 23 = .ok (.ldc2_w 90, 3) := by decide +kernel
theorem dX4_unpackTops_26 : decode cX4_unpackTops 26 = .ok (.land, 1) := by decide +kernel
theorem dX4_unpackTops_27 : decode cX4_unpackTops 27 = .ok (.l2i, 1) := by decide +kernel
theorem dX4_unpackTops_28 : decode cX4_unpackTops 28 = .ok (.iconst 1, 1) := by decide +kernel
theorem dX4_unpackTops_29 : decode cX4_unpackTops 29 = .ok (.isub, 1) := by decide +kernel
theorem dX4_unpackTops_30 : decode cX4_unpackTops 30 = .ok (.iastore, 1) := by decide +kernel
theorem dX4_unpackTops_31 : decode cX4_unpackTops 31 = .ok (.lload_n 3, 1) := by decide +kernel
theorem dX4_unpackTops_32 : decode cX4_unpackTops 32 = .ok (.iconst 5, 1) := by decide +kernel
theorem dX4_unpackTops_33 : decode cX4_unpackTops 33 = .ok (.lshr, 1) := by decide +kernel
theorem dX4_unpackTops_34 : decode cX4_unpackTops 34 = .ok (.lstore_n 3, 1) := by decide +kernel
theorem dX4_unpackTops_35 : decode cX4_unpackTops 35 = .ok (.iinc 5 (-1), 3) := by decide +kernel
theorem dX4_unpackTops_38 : decode cX4_unpackTops 38 = .ok (.goto (-27), 3) := by decide +kernel
theorem dX4_unpackTops_41 : decode cX4_unpackTops 41 = .ok (.return_, 1) := by decide +kernel
theorem dX4_topOf_0 : decode cX4_topOf 0 = .ok (.iload_n 1, 1) := by decide +kernel
theorem dX4_topOf_1 : decode cX4_topOf 1 = .ok (.ifCond .lt 18, 3) := by decide +kernel
theorem dX4_topOf_4 : decode cX4_topOf 4 = .ok (.iload_n 1, 1) := by decide +kernel
theorem dX4_topOf_5 : decode cX4_topOf 5 = .ok (.bipush 10, 2) := by decide +kernel
theorem dX4_topOf_7 : decode cX4_topOf 7 = .ok (.if_icmp .ge 12, 3) := by decide +kernel
theorem dX4_topOf_10 : decode cX4_topOf 10 = .ok (.aload_n 0, 1) := by decide +kernel
theorem dX4_topOf_11 : decode cX4_topOf 11 = .ok (.getfield 22, 3) := by decide +kernel
theorem dX4_topOf_14 : decode cX4_topOf 14 = .ok (.iload_n 1, 1) := by decide +kernel
theorem dX4_topOf_15 : decode cX4_topOf 15 = .ok (.iaload, 1) := by decide +kernel
theorem dX4_topOf_16 : decode cX4_topOf 16 = .ok (.goto 4, 3) := by decide +kernel
theorem dX4_topOf_19 : decode cX4_topOf 19 = .ok (.iconst (-1), 1) := by decide +kernel
theorem dX4_topOf_20 : decode cX4_topOf 20 = .ok (.ireturn, 1) := by decide +kernel
theorem dX4_under_0 : decode cX4_under 0 = .ok (.iload_n 1, 1) := by decide +kernel
theorem dX4_under_1 : decode cX4_under 1 = .ok (.ifCond .lt 18, 3) := by decide +kernel
theorem dX4_under_4 : decode cX4_under 4 = .ok (.iload_n 1, 1) := by decide +kernel
theorem dX4_under_5 : decode cX4_under 5 = .ok (.bipush 16, 2) := by decide +kernel
theorem dX4_under_7 : decode cX4_under 7 = .ok (.if_icmp .ge 12, 3) := by decide +kernel
theorem dX4_under_10 : decode cX4_under 10 = .ok (.aload_n 0, 1) := by decide +kernel
theorem dX4_under_11 : decode cX4_under 11 = .ok (.getfield 18, 3) := by decide +kernel
theorem dX4_under_14 : decode cX4_under 14 = .ok (.iload_n 1, 1) := by decide +kernel
theorem dX4_under_15 : decode cX4_under 15 = .ok (.iaload, 1) := by decide +kernel
theorem dX4_under_16 : decode cX4_under 16 = .ok (.goto 4, 3) := by decide +kernel
theorem dX4_under_19 : decode cX4_under 19 = .ok (.iconst (-1), 1) := by decide +kernel
theorem dX4_under_20 : decode cX4_under 20 = .ok (.istore_n 2, 1) := by decide +kernel
theorem dX4_under_21 : decode cX4_under 21 = .ok (.iload_n 2, 1) := by decide +kernel
theorem dX4_under_22 : decode cX4_under 22 = .ok (.bipush 16, 2) := by decide +kernel
theorem dX4_under_24 : decode cX4_under 24 = .ok (.if_icmp .ge 7, 3) := by decide +kernel
theorem dX4_under_27 : decode cX4_under 27 = .ok (.iload_n 2, 1) := by decide +kernel
theorem dX4_under_28 : decode cX4_under 28 = .ok (.goto 4, 3) := by decide +kernel
theorem dX4_under_31 : decode cX4_under 31 = .ok (.iconst (-1), 1) := by decide +kernel
theorem dX4_under_32 : decode cX4_under 32 = .ok (.ireturn, 1) := by decide +kernel
theorem dX4_isUp_0 : decode cX4_isUp 0 = .ok (.aload_n 0, 1) := by decide +kernel
theorem dX4_isUp_1 : decode cX4_isUp 1 = .ok (.getfield 18, 3) := by decide +kernel
theorem dX4_isUp_4 : decode cX4_isUp 4 = .ok (.iload_n 1, 1) := by decide +kernel
theorem dX4_isUp_5 : decode cX4_isUp 5 = .ok (.invokestatic 92, 3) := by decide +kernel
theorem dX4_isUp_8 : decode cX4_isUp 8 = .ok (.bipush 20, 2) := by decide +kernel
theorem dX4_isUp_10 : decode cX4_isUp 10 = .ok (.if_icmp .ne 7, 3) := by decide +kernel
theorem dX4_isUp_13 : decode cX4_isUp 13 = .ok (.iconst 1, 1) := by decide +kernel
theorem dX4_isUp_14 : decode cX4_isUp 14 = .ok (.goto 4, 3) := by decide +kernel
theorem dX4_isUp_17 : decode cX4_isUp 17 = .ok (.iconst 0, 1) := by decide +kernel
theorem dX4_isUp_18 : decode cX4_isUp 18 = .ok (.ireturn, 1) := by decide +kernel
theorem dX4_liesHidden_0 : decode cX4_liesHidden 0 = .ok (.iload_n 1, 1) := by decide +kernel
theorem dX4_liesHidden_1 : decode cX4_liesHidden 1 = .ok (.invokestatic 68, 3) := by decide +kernel
theorem dX4_liesHidden_4 : decode cX4_liesHidden 4 = .ok (.ifCond .eq 19, 3) := by decide +kernel
theorem dX4_liesHidden_7 : decode cX4_liesHidden 7 = .ok (.aload_n 0, 1) := by decide +kernel
theorem dX4_liesHidden_8 : decode cX4_liesHidden 8 = .ok (.getfield 32, 3) := by decide +kernel
theorem dX4_liesHidden_11 : decode cX4_liesHidden 11 = .ok (.iload_n 1, 1) := by decide +kernel
theorem dX4_liesHidden_12 : decode cX4_liesHidden 12 = .ok (.ishr, 1) := by decide +kernel
theorem dX4_liesHidden_13 : decode cX4_liesHidden 13 = .ok (.iconst 1, 1) := by decide +kernel
theorem dX4_liesHidden_14 : decode cX4_liesHidden 14 = .ok (.iand, 1) := by decide +kernel
theorem dX4_liesHidden_15 : decode cX4_liesHidden 15 = .ok (.iconst 1, 1) := by decide +kernel
theorem dX4_liesHidden_16 : decode cX4_liesHidden 16 = .ok (.if_icmp .ne 7, 3) := by decide +kernel
theorem dX4_liesHidden_19 : decode cX4_liesHidden 19 = .ok (.iconst 1, 1) := by decide +kernel
theorem dX4_liesHidden_20 : decode cX4_liesHidden 20 = .ok (.goto 4, 3) := by decide +kernel
theorem dX4_liesHidden_23 : decode cX4_liesHidden 23 = .ok (.iconst 0, 1) := by decide +kernel
theorem dX4_liesHidden_24 : decode cX4_liesHidden 24 = .ok (.ireturn, 1) := by decide +kernel
theorem dX4_cardsUp_0 : decode cX4_cardsUp 0 = .ok (.iconst 0, 1) := by decide +kernel
theorem dX4_cardsUp_1 : decode cX4_cardsUp 1 = .ok (.istore_n 1, 1) := by decide +kernel
theorem dX4_cardsUp_2 : decode cX4_cardsUp 2 = .ok (.iconst 0, 1) := by decide +kernel
theorem dX4_cardsUp_3 : decode cX4_cardsUp 3 = .ok (.istore_n 2, 1) := by decide +kernel
theorem dX4_cardsUp_4 : decode cX4_cardsUp 4 = .ok (.iload_n 2, 1) := by decide +kernel
theorem dX4_cardsUp_5 : decode cX4_cardsUp 5 = .ok (.aload_n 0, 1) := by decide +kernel
theorem dX4_cardsUp_6 : decode cX4_cardsUp 6 = .ok (.getfield 12, 3) := by decide +kernel
theorem dX4_cardsUp_9 : decode cX4_cardsUp 9 = .ok (.invokevirtual 54, 3) := by decide +kernel
theorem dX4_cardsUp_12 : decode cX4_cardsUp 12 = .ok (.if_icmp .ge 20, 3) := by decide +kernel
theorem dX4_cardsUp_15 : decode cX4_cardsUp 15 = .ok (.aload_n 0, 1) := by decide +kernel
theorem dX4_cardsUp_16 : decode cX4_cardsUp 16 = .ok (.iload_n 2, 1) := by decide +kernel
theorem dX4_cardsUp_17 : decode cX4_cardsUp 17 = .ok (.invokevirtual 96, 3) := by decide +kernel
theorem dX4_cardsUp_20 : decode cX4_cardsUp 20 = .ok (.ifCond .eq 6, 3) := by decide +kernel
theorem dX4_cardsUp_23 : decode cX4_cardsUp 23 = .ok (.iinc 1 1, 3) := by decide +kernel
theorem dX4_cardsUp_26 : decode cX4_cardsUp 26 = .ok (.iinc 2 1, 3) := by decide +kernel
theorem dX4_cardsUp_29 : decode cX4_cardsUp 29 = .ok (.goto (-25), 3) := by decide +kernel
theorem dX4_cardsUp_32 : decode cX4_cardsUp 32 = .ok (.iload_n 1, 1) := by decide +kernel
theorem dX4_cardsUp_33 : decode cX4_cardsUp 33 = .ok (.ireturn, 1) := by decide +kernel
theorem dX4_isWon_0 : decode cX4_isWon 0 = .ok (.aload_n 0, 1) := by decide +kernel
theorem dX4_isWon_1 : decode cX4_isWon 1 = .ok (.invokevirtual 99, 3) := by decide +kernel
theorem dX4_isWon_4 : decode cX4_isWon 4 = .ok (.aload_n 0, 1) := by decide +kernel
theorem dX4_isWon_5 : decode cX4_isWon 5 = .ok (.getfield 12, 3) := by decide +kernel
theorem dX4_isWon_8 : decode cX4_isWon 8 = .ok (.invokevirtual 54, 3) := by decide +kernel
theorem dX4_isWon_11 : decode cX4_isWon 11 = .ok (.if_icmp .ne 7, 3) := by decide +kernel
theorem dX4_isWon_14 : decode cX4_isWon 14 = .ok (.iconst 1, 1) := by decide +kernel
theorem dX4_isWon_15 : decode cX4_isWon 15 = .ok (.goto 4, 3) := by decide +kernel
theorem dX4_isWon_18 : decode cX4_isWon 18 = .ok (.iconst 0, 1) := by decide +kernel
theorem dX4_isWon_19 : decode cX4_isWon 19 = .ok (.ireturn, 1) := by decide +kernel
theorem dX4_highestUp_0 : decode cX4_highestUp 0 = .ok (.iload_n 1, 1) := by decide +kernel
theorem dX4_highestUp_1 : decode cX4_highestUp 1 = .ok (.aload_n 0, 1) := by decide +kernel
theorem dX4_highestUp_2 : decode cX4_highestUp 2 = .ok (.getfield 12, 3) := by decide +kernel
theorem dX4_highestUp_5 : decode cX4_highestUp 5 = .ok (.getfield 102, 3) := by decide +kernel
theorem dX4_highestUp_8 : decode cX4_highestUp 8 = .ok (.if_icmp .lt 5, 3) := by decide +kernel
theorem dX4_highestUp_11 : decode cX4_highestUp 11 = .ok (.iconst (-1), 1) := by decide +kernel
theorem dX4_highestUp_12 : decode cX4_highestUp 12 = .ok (.ireturn, 1) := by decide +kernel
theorem dX4_highestUp_13 : decode cX4_highestUp 13 = .ok (.aload_n 0, 1) := by decide +kernel
theorem dX4_highestUp_14 : decode cX4_highestUp 14 = .ok (.getfield 12, 3) := by decide +kernel
theorem dX4_highestUp_17 : decode cX4_highestUp 17 = .ok (.getfield 105, 3) := by decide +kernel
theorem dX4_highestUp_20 : decode cX4_highestUp 20 = .ok (.istore_n 2, 1) := by decide +kernel
theorem dX4_highestUp_21 : decode cX4_highestUp 21 = .ok (.iload_n 2, 1) := by decide +kernel
theorem dX4_highestUp_22 : decode cX4_highestUp 22 = .ok (.ifCond .le 33, 3) := by decide +kernel
theorem dX4_highestUp_25 : decode cX4_highestUp 25 = .ok (.iload_n 1, 1) := by decide +kernel
theorem dX4_highestUp_26 : decode cX4_highestUp 26 = .ok (.aload_n 0, 1) := by decide +kernel
theorem dX4_highestUp_27 : decode cX4_highestUp 27 = .ok (.getfield 12, 3) := by decide +kernel
theorem dX4_highestUp_30 : decode cX4_highestUp 30 = .ok (.getfield 105, 3) := by decide +kernel
theorem dX4_highestUp_33 : decode cX4_highestUp 33 = .ok (.imul, 1) := by decide +kernel
theorem dX4_highestUp_34 : decode cX4_highestUp 34 = .ok (.iload_n 2, 1) := by decide +kernel
theorem dX4_highestUp_35 : decode cX4_highestUp 35 = .ok (.iadd, 1) := by decide +kernel
theorem dX4_highestUp_36 : decode cX4_highestUp 36 = .ok (.iconst 1, 1) := by decide +kernel
theorem dX4_highestUp_37 : decode cX4_highestUp 37 = .ok (.isub, 1) := by decide +kernel
theorem dX4_highestUp_38 : decode cX4_highestUp 38 = .ok (.istore_n 3, 1) := by decide +kernel
theorem dX4_highestUp_39 : decode cX4_highestUp 39 = .ok (.aload_n 0, 1) := by decide +kernel
theorem dX4_highestUp_40 : decode cX4_highestUp 40 = .ok (.iload_n 3, 1) := by decide +kernel
theorem dX4_highestUp_41 : decode cX4_highestUp 41 = .ok (.invokevirtual 96, 3) := by decide +kernel
theorem dX4_highestUp_44 : decode cX4_highestUp 44 = .ok (.ifCond .eq 5, 3) := by decide +kernel
theorem dX4_highestUp_47 : decode cX4_highestUp 47 = .ok (.iload_n 3, 1) := by decide +kernel
theorem dX4_highestUp_48 : decode cX4_highestUp 48 = .ok (.ireturn, 1) := by decide +kernel
theorem dX4_highestUp_49 : decode cX4_highestUp 49 = .ok (.iinc 2 (-1), 3) := by decide +kernel
theorem dX4_highestUp_52 : decode cX4_highestUp 52 = .ok (.goto (-31), 3) := by decide +kernel
theorem dX4_highestUp_55 : decode cX4_highestUp 55 = .ok (.iconst (-1), 1) := by decide +kernel
theorem dX4_highestUp_56 : decode cX4_highestUp 56 = .ok (.ireturn, 1) := by decide +kernel
theorem dX4_fromTop_0 : decode cX4_fromTop 0 = .ok (.aload_n 0, 1) := by decide +kernel
theorem dX4_fromTop_1 : decode cX4_fromTop 1 = .ok (.iload_n 1, 1) := by decide +kernel
theorem dX4_fromTop_2 : decode cX4_fromTop 2 = .ok (.invokevirtual 60, 3) := by decide +kernel
theorem dX4_fromTop_5 : decode cX4_fromTop 5 = .ok (.istore_n 3, 1) := by decide +kernel
theorem dX4_fromTop_6 : decode cX4_fromTop 6 = .ok (.iload_n 2, 1) := by decide +kernel
theorem dX4_fromTop_7 : decode cX4_fromTop 7 = .ok (.bipush 16, 2) := by decide +kernel
theorem dX4_fromTop_9 : decode cX4_fromTop 9 = .ok (.invokestatic 87, 3) := by decide +kernel
theorem dX4_fromTop_12 : decode cX4_fromTop 12 = .ok (.istore 4, 2) := by decide +kernel
theorem dX4_fromTop_14 : decode cX4_fromTop 14 = .ok (.iconst 0, 1) := by decide +kernel
theorem dX4_fromTop_15 : decode cX4_fromTop 15 = .ok (.istore 5, 2) := by decide +kernel
theorem dX4_fromTop_17 : decode cX4_fromTop 17 = .ok (.iload 5, 2) := by decide +kernel
theorem dX4_fromTop_19 : decode cX4_fromTop 19 = .ok (.iload 4, 2) := by decide +kernel
theorem dX4_fromTop_21 : decode cX4_fromTop 21 = .ok (.if_icmp .ge 20, 3) := by decide +kernel
theorem dX4_fromTop_24 : decode cX4_fromTop 24 = .ok (.iload_n 3, 1) := by decide +kernel
theorem dX4_fromTop_25 : decode cX4_fromTop 25 = .ok (.iconst (-1), 1) := by decide +kernel
theorem dX4_fromTop_26 : decode cX4_fromTop 26 = .ok (.if_icmp .eq 15, 3) := by decide +kernel
theorem dX4_fromTop_29 : decode cX4_fromTop 29 = .ok (.aload_n 0, 1) := by decide +kernel
theorem dX4_fromTop_30 : decode cX4_fromTop 30 = .ok (.iload_n 3, 1) := by decide +kernel
theorem dX4_fromTop_31 : decode cX4_fromTop 31 = .ok (.invokevirtual 108, 3) := by decide +kernel
theorem dX4_fromTop_34 : decode cX4_fromTop 34 = .ok (.istore_n 3, 1) := by decide +kernel
theorem dX4_fromTop_35 : decode cX4_fromTop 35 = .ok (.iinc 5 1, 3) := by decide +kernel
theorem dX4_fromTop_38 : decode cX4_fromTop 38 = .ok (.goto (-21), 3) := by decide +kernel
theorem dX4_fromTop_41 : decode cX4_fromTop 41 = .ok (.iload_n 3, 1) := by decide +kernel
theorem dX4_fromTop_42 : decode cX4_fromTop 42 = .ok (.ireturn, 1) := by decide +kernel
theorem dX4_heightOf_0 : decode cX4_heightOf 0 = .ok (.iconst 0, 1) := by decide +kernel
theorem dX4_heightOf_1 : decode cX4_heightOf 1 = .ok (.istore_n 2, 1) := by decide +kernel
theorem dX4_heightOf_2 : decode cX4_heightOf 2 = .ok (.aload_n 0, 1) := by decide +kernel
theorem dX4_heightOf_3 : decode cX4_heightOf 3 = .ok (.iload_n 1, 1) := by decide +kernel
theorem dX4_heightOf_4 : decode cX4_heightOf 4 = .ok (.invokevirtual 60, 3) := by decide +kernel
theorem dX4_heightOf_7 : decode cX4_heightOf 7 = .ok (.istore_n 3, 1) := by decide +kernel
theorem dX4_heightOf_8 : decode cX4_heightOf 8 = .ok (.iload_n 3, 1) := by decide +kernel
theorem dX4_heightOf_9 : decode cX4_heightOf 9 = .ok (.iconst (-1), 1) := by decide +kernel
theorem dX4_heightOf_10 : decode cX4_heightOf 10 = .ok (.if_icmp .eq 21, 3) := by decide +kernel
theorem dX4_heightOf_13 : decode cX4_heightOf 13 = .ok (.iload_n 2, 1) := by decide +kernel
theorem dX4_heightOf_14 : decode cX4_heightOf 14 = .ok (.bipush 16, 2) := by decide +kernel
theorem dX4_heightOf_16 : decode cX4_heightOf 16 = .ok (.if_icmp .ge 15, 3) := by decide +kernel
theorem dX4_heightOf_19 : decode cX4_heightOf 19 = .ok (.iinc 2 1, 3) := by decide +kernel
theorem dX4_heightOf_22 : decode cX4_heightOf 22 = .ok (.aload_n 0, 1) := by decide +kernel
theorem dX4_heightOf_23 : decode cX4_heightOf 23 = .ok (.iload_n 3, 1) := by decide +kernel
theorem dX4_heightOf_24 : decode cX4_heightOf 24 = .ok (.invokevirtual 108, 3) := by decide +kernel
theorem dX4_heightOf_27 : decode cX4_heightOf 27 = .ok (.istore_n 3, 1) := by decide +kernel
theorem dX4_heightOf_28 : decode cX4_heightOf 28 = .ok (.goto (-20), 3) := by decide +kernel
theorem dX4_heightOf_31 : decode cX4_heightOf 31 = .ok (.iload_n 2, 1) := by decide +kernel
theorem dX4_heightOf_32 : decode cX4_heightOf 32 = .ok (.ireturn, 1) := by decide +kernel
theorem dX4_seenInColumn_0 : decode cX4_seenInColumn 0 = .ok (.aload_n 0, 1) := by decide +kernel
theorem dX4_seenInColumn_1 : decode cX4_seenInColumn 1 = .ok (.iload_n 1, 1) := by decide +kernel
theorem dX4_seenInColumn_2 : decode cX4_seenInColumn 2 = .ok (.invokevirtual 111, 3) := by decide +kernel
theorem dX4_seenInColumn_5 : decode cX4_seenInColumn 5 = .ok (.istore_n 3, 1) := by decide +kernel
theorem dX4_seenInColumn_6 : decode cX4_seenInColumn 6 = .ok (.iload_n 2, 1) := by decide +kernel
theorem dX4_seenInColumn_7 : decode cX4_seenInColumn 7 = .ok (.iload_n 3, 1) := by decide +kernel
theorem dX4_seenInColumn_8 : decode cX4_seenInColumn 8 = .ok (.if_icmp .lt 5, 3) := by decide +kernel
theorem dX4_seenInColumn_11 : decode cX4_seenInColumn 11 = .ok (.iconst (-1), 1) := by decide +kernel
theorem dX4_seenInColumn_12 : decode cX4_seenInColumn 12 = .ok (.ireturn, 1) := by decide +kernel
theorem dX4_seenInColumn_13 : decode cX4_seenInColumn 13 = .ok (.aload_n 0, 1) := by decide +kernel
theorem dX4_seenInColumn_14 : decode cX4_seenInColumn 14 = .ok (.iload_n 1, 1) := by decide +kernel
theorem dX4_seenInColumn_15 : decode cX4_seenInColumn 15 = .ok (.iload_n 3, 1) := by decide +kernel
theorem dX4_seenInColumn_16 : decode cX4_seenInColumn 16 = .ok (.iconst 1, 1) := by decide +kernel
theorem dX4_seenInColumn_17 : decode cX4_seenInColumn 17 = .ok (.isub, 1) := by decide +kernel
theorem dX4_seenInColumn_18 : decode cX4_seenInColumn 18 = .ok (.iload_n 2, 1) := by decide +kernel
theorem dX4_seenInColumn_19 : decode cX4_seenInColumn 19 = .ok (.isub, 1) := by decide +kernel
theorem dX4_seenInColumn_20 : decode cX4_seenInColumn 20 = .ok (.invokevirtual 114, 3) := by decide +kernel
theorem dX4_seenInColumn_23 : decode cX4_seenInColumn 23 = .ok (.istore 4, 2) := by decide +kernel
theorem dX4_seenInColumn_25 : decode cX4_seenInColumn 25 = .ok (.aload_n 0, 1) := by decide +kernel
theorem dX4_seenInColumn_26 : decode cX4_seenInColumn 26 = .ok (.iload 4, 2) := by decide +kernel
theorem dX4_seenInColumn_28 : decode cX4_seenInColumn 28 = .ok (.invokevirtual 117, 3) := by decide +kernel
theorem dX4_seenInColumn_31 : decode cX4_seenInColumn 31 = .ok (.ifCond .eq 8, 3) := by decide +kernel
theorem dX4_seenInColumn_34 : decode cX4_seenInColumn 34 = .ok (.bipush (-2), 2) := by decide +kernel
theorem dX4_seenInColumn_36 : decode cX4_seenInColumn 36 = .ok (.goto 5, 3) := by decide +kernel
theorem dX4_seenInColumn_39 : decode cX4_seenInColumn 39 = .ok (.iload 4, 2) := by decide +kernel
theorem dX4_seenInColumn_41 : decode cX4_seenInColumn 41 = .ok (.ireturn, 1) := by decide +kernel
theorem dX4_isMove_0 : decode cX4_isMove 0 = .ok (.iload_n 1, 1) := by decide +kernel
theorem dX4_isMove_1 : decode cX4_isMove 1 = .ok (.bipush 9, 2) := by decide +kernel
theorem dX4_isMove_3 : decode cX4_isMove 3 = .ok (.if_icmp .ne 22, 3) := by decide +kernel
theorem dX4_isMove_6 : decode cX4_isMove 6 = .ok (.iload_n 2, 1) := by decide +kernel
theorem dX4_isMove_7 : decode cX4_isMove 7 = .ok (.bipush 7, 2) := by decide +kernel
theorem dX4_isMove_9 : decode cX4_isMove 9 = .ok (.if_icmp .ne 14, 3) := by decide +kernel
theorem dX4_isMove_12 : decode cX4_isMove 12 = .ok (.aload_n 0, 1) := by decide +kernel
theorem dX4_isMove_13 : decode cX4_isMove 13 = .ok (.invokevirtual 120, 3) := by decide +kernel
theorem dX4_isMove_16 : decode cX4_isMove 16 = .ok (.ifCond .eq 7, 3) := by decide +kernel
theorem dX4_isMove_19 : decode cX4_isMove 19 = .ok (.iconst 1, 1) := by decide +kernel
theorem dX4_isMove_20 : decode cX4_isMove 20 = .ok (.goto 4, 3) := by decide +kernel
theorem dX4_isMove_23 : decode cX4_isMove 23 = .ok (.iconst 0, 1) := by decide +kernel
theorem dX4_isMove_24 : decode cX4_isMove 24 = .ok (.ireturn, 1) := by decide +kernel
theorem dX4_isMove_25 : decode cX4_isMove 25 = .ok (.aload_n 0, 1) := by decide +kernel
theorem dX4_isMove_26 : decode cX4_isMove 26 = .ok (.iload_n 1, 1) := by decide +kernel
theorem dX4_isMove_27 : decode cX4_isMove 27 = .ok (.invokevirtual 60, 3) := by decide +kernel
theorem dX4_isMove_30 : decode cX4_isMove 30 = .ok (.istore 4, 2) := by decide +kernel
theorem dX4_isMove_32 : decode cX4_isMove 32 = .ok (.iload 4, 2) := by decide +kernel
theorem dX4_isMove_34 : decode cX4_isMove 34 = .ok (.iconst (-1), 1) := by decide +kernel
theorem dX4_isMove_35 : decode cX4_isMove 35 = .ok (.if_icmp .eq 8, 3) := by decide +kernel
theorem dX4_isMove_38 : decode cX4_isMove 38 = .ok (.iload_n 1, 1) := by decide +kernel
theorem dX4_isMove_39 : decode cX4_isMove 39 = .ok (.iload_n 2, 1) := by decide +kernel
theorem dX4_isMove_40 : decode cX4_isMove 40 = .ok (.if_icmp .ne 5, 3) := by decide +kernel
theorem dX4_isMove_43 : decode cX4_isMove 43 = .ok (.iconst 0, 1) := by decide +kernel
theorem dX4_isMove_44 : decode cX4_isMove 44 = .ok (.ireturn, 1) := by decide +kernel
theorem dX4_isMove_45 : decode cX4_isMove 45 = .ok (.iload_n 2, 1) := by decide +kernel
theorem dX4_isMove_46 : decode cX4_isMove 46 = .ok (.bipush 8, 2) := by decide +kernel
theorem dX4_isMove_48 : decode cX4_isMove 48 = .ok (.if_icmp .ne 10, 3) := by decide +kernel
theorem dX4_isMove_51 : decode cX4_isMove 51 = .ok (.aload_n 0, 1) := by decide +kernel
theorem dX4_isMove_52 : decode cX4_isMove 52 = .ok (.iload 4, 2) := by decide +kernel
theorem dX4_isMove_54 : decode cX4_isMove 54 = .ok (.invokevirtual 124, 3) := by decide +kernel
theorem dX4_isMove_57 : decode cX4_isMove 57 = .ok (.ireturn, 1) := by decide +kernel
theorem dX4_isMove_58 : decode cX4_isMove 58 = .ok (.iload_n 2, 1) := by decide +kernel
theorem dX4_isMove_59 : decode cX4_isMove 59 = .ok (.invokestatic 127, 3) := by decide +kernel
theorem dX4_isMove_62 : decode cX4_isMove 62 = .ok (.ifCond .eq 38, 3) := by decide +kernel
theorem dX4_isMove_65 : decode cX4_isMove 65 = .ok (.iload_n 1, 1) := by decide +kernel
theorem dX4_isMove_66 : decode cX4_isMove 66 = .ok (.invokestatic 127, 3) := by decide +kernel
theorem dX4_isMove_69 : decode cX4_isMove 69 = .ok (.ifCond .ne 29, 3) := by decide +kernel
theorem dX4_isMove_72 : decode cX4_isMove 72 = .ok (.iload_n 2, 1) := by decide +kernel
theorem dX4_isMove_73 : decode cX4_isMove 73 = .ok (.iconst 5, 1) := by decide +kernel
theorem dX4_isMove_74 : decode cX4_isMove 74 = .ok (.isub, 1) := by decide +kernel
theorem dX4_isMove_75 : decode cX4_isMove 75 = .ok (.aload_n 0, 1) := by decide +kernel
theorem dX4_isMove_76 : decode cX4_isMove 76 = .ok (.getfield 12, 3) := by decide +kernel
theorem dX4_isMove_79 : decode cX4_isMove 79 = .ok (.getfield 130, 3) := by decide +kernel
theorem dX4_isMove_82 : decode cX4_isMove 82 = .ok (.if_icmp .ge 16, 3) := by decide +kernel
theorem dX4_isMove_85 : decode cX4_isMove 85 = .ok (.aload_n 0, 1) := by decide +kernel
theorem dX4_isMove_86 : decode cX4_isMove 86 = .ok (.iload_n 2, 1) := by decide +kernel
theorem dX4_isMove_87 : decode cX4_isMove 87 = .ok (.invokevirtual 60, 3) := by decide +kernel
theorem dX4_isMove_90 : decode cX4_isMove 90 = .ok (.iconst (-1), 1) := by decide +kernel
theorem dX4_isMove_91 : decode cX4_isMove 91 = .ok (.if_icmp .ne 7, 3) := by decide +kernel
theorem dX4_isMove_94 : decode cX4_isMove 94 = .ok (.iconst 1, 1) := by decide +kernel
theorem dX4_isMove_95 : decode cX4_isMove 95 = .ok (.goto 4, 3) := by decide +kernel
theorem dX4_isMove_98 : decode cX4_isMove 98 = .ok (.iconst 0, 1) := by decide +kernel
theorem dX4_isMove_99 : decode cX4_isMove 99 = .ok (.ireturn, 1) := by decide +kernel
theorem dX4_isMove_100 : decode cX4_isMove 100 = .ok (.iload_n 2, 1) := by decide +kernel
theorem dX4_isMove_101 : decode cX4_isMove 101 = .ok (.invokestatic 133, 3) := by decide +kernel
theorem dX4_isMove_104 : decode cX4_isMove 104 = .ok (.ifCond .eq 14, 3) := by decide +kernel
theorem dX4_isMove_107 : decode cX4_isMove 107 = .ok (.iload_n 2, 1) := by decide +kernel
theorem dX4_isMove_108 : decode cX4_isMove 108 = .ok (.aload_n 0, 1) := by decide +kernel
theorem dX4_isMove_109 : decode cX4_isMove 109 = .ok (.getfield 12, 3) := by decide +kernel
theorem dX4_isMove_112 : decode cX4_isMove 112 = .ok (.getfield 57, 3) := by decide +kernel
theorem dX4_isMove_115 : decode cX4_isMove 115 = .ok (.if_icmp .lt 5, 3) := by decide +kernel
theorem dX4_isMove_118 : decode cX4_isMove 118 = .ok (.iconst 0, 1) := by decide +kernel
theorem dX4_isMove_119 : decode cX4_isMove 119 = .ok (.ireturn, 1) := by decide +kernel
theorem dX4_isMove_120 : decode cX4_isMove 120 = .ok (.iload_n 3, 1) := by decide +kernel
theorem dX4_isMove_121 : decode cX4_isMove 121 = .ok (.iconst 1, 1) := by decide +kernel
theorem dX4_isMove_122 : decode cX4_isMove 122 = .ok (.if_icmp .le 23, 3) := by decide +kernel
theorem dX4_isMove_125 : decode cX4_isMove 125 = .ok (.iload_n 3, 1) := by decide +kernel
theorem dX4_isMove_126 : decode cX4_isMove 126 = .ok (.aload_n 0, 1) := by decide +kernel
theorem dX4_isMove_127 : decode cX4_isMove 127 = .ok (.iload_n 1, 1) := by decide +kernel
theorem dX4_isMove_128 : decode cX4_isMove 128 = .ok (.invokevirtual 136, 3) := by decide +kernel
theorem dX4_isMove_131 : decode cX4_isMove 131 = .ok (.if_icmp .gt 12, 3) := by decide +kernel
theorem dX4_isMove_134 : decode cX4_isMove 134 = .ok (.iload_n 3, 1) := by decide +kernel
theorem dX4_isMove_135 : decode cX4_isMove 135 = .ok (.aload_n 0, 1) := by decide +kernel
theorem dX4_isMove_136 : decode cX4_isMove 136 = .ok (.iload_n 2, 1) := by decide +kernel
theorem dX4_isMove_137 : decode cX4_isMove 137 = .ok (.invokevirtual 139, 3) := by decide +kernel
theorem dX4_isMove_140 : decode cX4_isMove 140 = .ok (.if_icmp .le 5, 3) := by decide +kernel
theorem dX4_isMove_143 : decode cX4_isMove 143 = .ok (.iconst 0, 1) := by decide +kernel
theorem dX4_isMove_144 : decode cX4_isMove 144 = .ok (.ireturn, 1) := by decide +kernel
theorem dX4_isMove_145 : decode cX4_isMove 145 = .ok (.aload_n 0, 1) := by decide +kernel
theorem dX4_isMove_146 : decode cX4_isMove 146 = .ok (.aload_n 0, 1) := by decide +kernel
theorem dX4_isMove_147 : decode cX4_isMove 147 = .ok (.iload_n 1, 1) := by decide +kernel
theorem dX4_isMove_148 : decode cX4_isMove 148 = .ok (.iload_n 3, 1) := by decide +kernel
theorem dX4_isMove_149 : decode cX4_isMove 149 = .ok (.iconst 1, 1) := by decide +kernel
theorem dX4_isMove_150 : decode cX4_isMove 150 = .ok (.isub, 1) := by decide +kernel
theorem dX4_isMove_151 : decode cX4_isMove 151 = .ok (.invokevirtual 114, 3) := by decide +kernel
theorem dX4_isMove_154 : decode cX4_isMove 154 = .ok (.iload_n 2, 1) := by decide +kernel
theorem dX4_isMove_155 : decode cX4_isMove 155 = .ok (.invokevirtual 142, 3) := by decide +kernel
theorem dX4_isMove_158 : decode cX4_isMove 158 = .ok (.ireturn, 1) := by decide +kernel
theorem dX4_isStockMove_0 : decode cX4_isStockMove 0 = .ok (.aload_n 0, 1) := by decide +kernel
theorem dX4_isStockMove_1 : decode cX4_isStockMove 1 = .ok (.bipush 9, 2) := by decide +kernel
theorem dX4_isStockMove_3 : decode cX4_isStockMove 3 = .ok (.invokevirtual 60, 3) := by decide +kernel
theorem dX4_isStockMove_6 : decode cX4_isStockMove 6 = .ok (.iconst (-1), 1) := by decide +kernel
theorem dX4_isStockMove_7 : decode cX4_isStockMove 7 = .ok (.if_icmp .ne 27, 3) := by decide +kernel
theorem dX4_isStockMove_10 : decode cX4_isStockMove 10 = .ok (.aload_n 0, 1) := by decide +kernel
theorem dX4_isStockMove_11 : decode cX4_isStockMove 11 = .ok (.bipush 7, 2) := by decide +kernel
theorem dX4_isStockMove_13 : decode cX4_isStockMove 13 = .ok (.invokevirtual 60, 3) := by decide +kernel
theorem dX4_isStockMove_16 : decode cX4_isStockMove 16 = .ok (.iconst (-1), 1) := by decide +kernel
theorem dX4_isStockMove_17 : decode cX4_isStockMove 17 = .ok (.if_icmp .eq 21, 3) := by decide +kernel
theorem dX4_isStockMove_20 : decode cX4_isStockMove 20 = .ok (.aload_n 0, 1) := by decide +kernel
theorem dX4_isStockMove_21 : decode cX4_isStockMove 21 = .ok (.getfield 35, 3) := by decide +kernel
theorem dX4_isStockMove_24 : decode cX4_isStockMove 24 = .ok (.aload_n 0, 1) := by decide +kernel
theorem dX4_isStockMove_25 : decode cX4_isStockMove 25 = .ok (.getfield 12, 3) := by decide +kernel
theorem dX4_isStockMove_28 : decode cX4_isStockMove 28 = .ok (.getfield 146, 3) := by decide +kernel
theorem dX4_isStockMove_31 : decode cX4_isStockMove 31 = .ok (.if_icmp .ge 7, 3) := by decide +kernel
theorem dX4_isStockMove_34 : decode cX4_isStockMove 34 = .ok (.iconst 1, 1) := by decide +kernel
theorem dX4_isStockMove_35 : decode cX4_isStockMove 35 = .ok (.goto 4, 3) := by decide +kernel
theorem dX4_isStockMove_38 : decode cX4_isStockMove 38 = .ok (.iconst 0, 1) := by decide +kernel
theorem dX4_isStockMove_39 : decode cX4_isStockMove 39 = .ok (.ireturn, 1) := by decide +kernel
theorem dX4_isNextUp_0 : decode cX4_isNextUp 0 = .ok (.aload_n 0, 1) := by decide +kernel
theorem dX4_isNextUp_1 : decode cX4_isNextUp 1 = .ok (.getfield 12, 3) := by decide +kernel
theorem dX4_isNextUp_4 : decode cX4_isNextUp 4 = .ok (.iload_n 1, 1) := by decide +kernel
theorem dX4_isNextUp_5 : decode cX4_isNextUp 5 = .ok (.invokevirtual 149, 3) := by decide +kernel
theorem dX4_isNextUp_8 : decode cX4_isNextUp 8 = .ok (.iconst 1, 1) := by decide +kernel
theorem dX4_isNextUp_9 : decode cX4_isNextUp 9 = .ok (.if_icmp .eq 13, 3) := by decide +kernel
theorem dX4_isNextUp_12 : decode cX4_isNextUp 12 = .ok (.aload_n 0, 1) := by decide +kernel
theorem dX4_isNextUp_13 : decode cX4_isNextUp 13 = .ok (.iload_n 1, 1) := by decide +kernel
theorem dX4_isNextUp_14 : decode cX4_isNextUp 14 = .ok (.iconst 1, 1) := by decide +kernel
theorem dX4_isNextUp_15 : decode cX4_isNextUp 15 = .ok (.isub, 1) := by decide +kernel
theorem dX4_isNextUp_16 : decode cX4_isNextUp 16 = .ok (.invokevirtual 96, 3) := by decide +kernel
theorem dX4_isNextUp_19 : decode cX4_isNextUp 19 = .ok (.ifCond .eq 7, 3) := by decide +kernel
theorem dX4_isNextUp_22 : decode cX4_isNextUp 22 = .ok (.iconst 1, 1) := by decide +kernel
theorem dX4_isNextUp_23 : decode cX4_isNextUp 23 = .ok (.goto 4, 3) := by decide +kernel
theorem dX4_isNextUp_26 : decode cX4_isNextUp 26 = .ok (.iconst 0, 1) := by decide +kernel
theorem dX4_isNextUp_27 : decode cX4_isNextUp 27 = .ok (.ireturn, 1) := by decide +kernel
theorem dX4_isForColumn_0 : decode cX4_isForColumn 0 = .ok (.aload_n 0, 1) := by decide +kernel
theorem dX4_isForColumn_1 : decode cX4_isForColumn 1 = .ok (.iload_n 2, 1) := by decide +kernel
theorem dX4_isForColumn_2 : decode cX4_isForColumn 2 = .ok (.invokevirtual 60, 3) := by decide +kernel
theorem dX4_isForColumn_5 : decode cX4_isForColumn 5 = .ok (.istore_n 3, 1) := by decide +kernel
theorem dX4_isForColumn_6 : decode cX4_isForColumn 6 = .ok (.iload_n 3, 1) := by decide +kernel
theorem dX4_isForColumn_7 : decode cX4_isForColumn 7 = .ok (.iconst (-1), 1) := by decide +kernel
theorem dX4_isForColumn_8 : decode cX4_isForColumn 8 = .ok (.if_icmp .ne 14, 3) := by decide +kernel
theorem dX4_isForColumn_11 : decode cX4_isForColumn 11 = .ok (.aload_n 0, 1) := by decide +kernel
theorem dX4_isForColumn_12 : decode cX4_isForColumn 12 = .ok (.getfield 12, 3) := by decide +kernel
theorem dX4_isForColumn_15 : decode cX4_isForColumn 15 = .ok (.iload_n 1, 1) := by decide +kernel
theorem dX4_isForColumn_16 : decode cX4_isForColumn 16 = .ok (.invokevirtual 152, 3) := by decide +kernel
theorem dX4_isForColumn_19 : decode cX4_isForColumn 19 = .ok (.goto 12, 3) := by decide +kernel
theorem dX4_isForColumn_22 : decode cX4_isForColumn 22 = .ok (.aload_n 0, 1) := by decide +kernel
theorem dX4_isForColumn_23 : decode cX4_isForColumn 23 = .ok (.getfield 12, 3) := by decide +kernel
theorem dX4_isForColumn_26 : decode cX4_isForColumn 26 = .ok (.iload_n 1, 1) := by decide +kernel
theorem dX4_isForColumn_27 : decode cX4_isForColumn 27 = .ok (.iload_n 3, 1) := by decide +kernel
theorem dX4_isForColumn_28 : decode cX4_isForColumn 28 = .ok (.invokevirtual 155, 3) := by decide +kernel
theorem dX4_isForColumn_31 : decode cX4_isForColumn 31 = .ok (.ireturn, 1) := by decide +kernel
theorem dX4_runOf_0 : decode cX4_runOf 0 = .ok (.aload_n 0, 1) := by decide +kernel
theorem dX4_runOf_1 : decode cX4_runOf 1 = .ok (.iload_n 1, 1) := by decide +kernel
theorem dX4_runOf_2 : decode cX4_runOf 2 = .ok (.invokevirtual 60, 3) := by decide +kernel
theorem dX4_runOf_5 : decode cX4_runOf 5 = .ok (.istore_n 2, 1) := by decide +kernel
theorem dX4_runOf_6 : decode cX4_runOf 6 = .ok (.iload_n 2, 1) := by decide +kernel
theorem dX4_runOf_7 : decode cX4_runOf 7 = .ok (.iconst (-1), 1) := by decide +kernel
theorem dX4_runOf_8 : decode cX4_runOf 8 = .ok (.if_icmp .ne 7, 3) := by decide +kernel
theorem dX4_runOf_11 : decode cX4_runOf 11 = .ok (.iconst 0, 1) := by decide +kernel
theorem dX4_runOf_12 : decode cX4_runOf 12 = .ok (.goto 4, 3) := by decide +kernel
theorem dX4_runOf_15 : decode cX4_runOf 15 = .ok (.iconst 1, 1) := by decide +kernel
theorem dX4_runOf_16 : decode cX4_runOf 16 = .ok (.istore_n 3, 1) := by decide +kernel
theorem dX4_runOf_17 : decode cX4_runOf 17 = .ok (.aload_n 0, 1) := by decide +kernel
theorem dX4_runOf_18 : decode cX4_runOf 18 = .ok (.iload_n 2, 1) := by decide +kernel
theorem dX4_runOf_19 : decode cX4_runOf 19 = .ok (.invokevirtual 108, 3) := by decide +kernel
theorem dX4_runOf_22 : decode cX4_runOf 22 = .ok (.istore 4, 2) := by decide +kernel
theorem dX4_runOf_24 : decode cX4_runOf 24 = .ok (.iload 4, 2) := by decide +kernel
theorem dX4_runOf_26 : decode cX4_runOf 26 = .ok (.iconst (-1), 1) := by decide +kernel
theorem dX4_runOf_27 : decode cX4_runOf 27 = .ok (.if_icmp .eq 47, 3) := by decide +kernel
theorem dX4_runOf_30 : decode cX4_runOf 30 = .ok (.iload_n 3, 1) := by decide +kernel
theorem dX4_runOf_31 : decode cX4_runOf 31 = .ok (.bipush 16, 2) := by decide +kernel
theorem dX4_runOf_33 : decode cX4_runOf 33 = .ok (.if_icmp .ge 41, 3) := by decide +kernel
theorem dX4_runOf_36 : decode cX4_runOf 36 = .ok (.aload_n 0, 1) := by decide +kernel
theorem dX4_runOf_37 : decode cX4_runOf 37 = .ok (.iload 4, 2) := by decide +kernel
theorem dX4_runOf_39 : decode cX4_runOf 39 = .ok (.invokevirtual 117, 3) := by decide +kernel
theorem dX4_runOf_42 : decode cX4_runOf 42 = .ok (.ifCond .ne 32, 3) := by decide +kernel
theorem dX4_runOf_45 : decode cX4_runOf 45 = .ok (.aload_n 0, 1) := by decide +kernel
theorem dX4_runOf_46 : decode cX4_runOf 46 = .ok (.getfield 12, 3) := by decide +kernel
theorem dX4_runOf_49 : decode cX4_runOf 49 = .ok (.iload_n 2, 1) := by decide +kernel
theorem dX4_runOf_50 : decode cX4_runOf 50 = .ok (.iload 4, 2) := by decide +kernel
theorem dX4_runOf_52 : decode cX4_runOf 52 = .ok (.invokevirtual 155, 3) := by decide +kernel
theorem dX4_runOf_55 : decode cX4_runOf 55 = .ok (.ifCond .eq 19, 3) := by decide +kernel
theorem dX4_runOf_58 : decode cX4_runOf 58 = .ok (.iinc 3 1, 3) := by decide +kernel
theorem dX4_runOf_61 : decode cX4_runOf 61 = .ok (.iload 4, 2) := by decide +kernel
theorem dX4_runOf_63 : decode cX4_runOf 63 = .ok (.istore_n 2, 1) := by decide +kernel
theorem dX4_runOf_64 : decode cX4_runOf 64 = .ok (.aload_n 0, 1) := by decide +kernel
theorem dX4_runOf_65 : decode cX4_runOf 65 = .ok (.iload_n 2, 1) := by decide +kernel
theorem dX4_runOf_66 : decode cX4_runOf 66 = .ok (.invokevirtual 108, 3) := by decide +kernel
theorem dX4_runOf_69 : decode cX4_runOf 69 = .ok (.istore 4, 2) := by decide +kernel
theorem dX4_runOf_71 : decode cX4_runOf 71 = .ok (.goto (-47), 3) := by decide +kernel
theorem dX4_runOf_74 : decode cX4_runOf 74 = .ok (.iload_n 3, 1) := by decide +kernel
theorem dX4_runOf_75 : decode cX4_runOf 75 = .ok (.ireturn, 1) := by decide +kernel
theorem dX4_mostTo_0 : decode cX4_mostTo 0 = .ok (.iconst 1, 1) := by decide +kernel
theorem dX4_mostTo_1 : decode cX4_mostTo 1 = .ok (.istore_n 2, 1) := by decide +kernel
theorem dX4_mostTo_2 : decode cX4_mostTo 2 = .ok (.iconst 5, 1) := by decide +kernel
theorem dX4_mostTo_3 : decode cX4_mostTo 3 = .ok (.istore_n 3, 1) := by decide +kernel
theorem dX4_mostTo_4 : decode cX4_mostTo 4 = .ok (.iload_n 3, 1) := by decide +kernel
theorem dX4_mostTo_5 : decode cX4_mostTo 5 = .ok (.iconst 5, 1) := by decide +kernel
theorem dX4_mostTo_6 : decode cX4_mostTo 6 = .ok (.aload_n 0, 1) := by decide +kernel
theorem dX4_mostTo_7 : decode cX4_mostTo 7 = .ok (.getfield 12, 3) := by decide +kernel
theorem dX4_mostTo_10 : decode cX4_mostTo 10 = .ok (.getfield 130, 3) := by decide +kernel
theorem dX4_mostTo_13 : decode cX4_mostTo 13 = .ok (.iadd, 1) := by decide +kernel
theorem dX4_mostTo_14 : decode cX4_mostTo 14 = .ok (.if_icmp .ge 26, 3) := by decide +kernel
theorem dX4_mostTo_17 : decode cX4_mostTo 17 = .ok (.iload_n 2, 1) := by decide +kernel
theorem dX4_mostTo_18 : decode cX4_mostTo 18 = .ok (.aload_n 0, 1) := by decide +kernel
theorem dX4_mostTo_19 : decode cX4_mostTo 19 = .ok (.iload_n 3, 1) := by decide +kernel
theorem dX4_mostTo_20 : decode cX4_mostTo 20 = .ok (.invokevirtual 60, 3) := by decide +kernel
theorem dX4_mostTo_23 : decode cX4_mostTo 23 = .ok (.iconst (-1), 1) := by decide +kernel
theorem dX4_mostTo_24 : decode cX4_mostTo 24 = .ok (.if_icmp .ne 7, 3) := by decide +kernel
theorem dX4_mostTo_27 : decode cX4_mostTo 27 = .ok (.iconst 1, 1) := by decide +kernel
theorem dX4_mostTo_28 : decode cX4_mostTo 28 = .ok (.goto 4, 3) := by decide +kernel
theorem dX4_mostTo_31 : decode cX4_mostTo 31 = .ok (.iconst 0, 1) := by decide +kernel
theorem dX4_mostTo_32 : decode cX4_mostTo 32 = .ok (.iadd, 1) := by decide +kernel
theorem dX4_mostTo_33 : decode cX4_mostTo 33 = .ok (.istore_n 2, 1) := by decide +kernel
theorem dX4_mostTo_34 : decode cX4_mostTo 34 = .ok (.iinc 3 1, 3) := by decide +kernel
theorem dX4_mostTo_37 : decode cX4_mostTo 37 = .ok (.goto (-33), 3) := by decide +kernel
theorem dX4_mostTo_40 : decode cX4_mostTo 40 = .ok (.iconst 0, 1) := by decide +kernel
theorem dX4_mostTo_41 : decode cX4_mostTo 41 = .ok (.istore_n 3, 1) := by decide +kernel
theorem dX4_mostTo_42 : decode cX4_mostTo 42 = .ok (.iload_n 3, 1) := by decide +kernel
theorem dX4_mostTo_43 : decode cX4_mostTo 43 = .ok (.aload_n 0, 1) := by decide +kernel
theorem dX4_mostTo_44 : decode cX4_mostTo 44 = .ok (.getfield 12, 3) := by decide +kernel
theorem dX4_mostTo_47 : decode cX4_mostTo 47 = .ok (.getfield 57, 3) := by decide +kernel
theorem dX4_mostTo_50 : decode cX4_mostTo 50 = .ok (.if_icmp .ge 31, 3) := by decide +kernel
theorem dX4_mostTo_53 : decode cX4_mostTo 53 = .ok (.iload_n 2, 1) := by decide +kernel
theorem dX4_mostTo_54 : decode cX4_mostTo 54 = .ok (.iload_n 3, 1) := by decide +kernel
theorem dX4_mostTo_55 : decode cX4_mostTo 55 = .ok (.iload_n 1, 1) := by decide +kernel
theorem dX4_mostTo_56 : decode cX4_mostTo 56 = .ok (.if_icmp .eq 16, 3) := by decide +kernel
theorem dX4_mostTo_59 : decode cX4_mostTo 59 = .ok (.aload_n 0, 1) := by decide +kernel
theorem dX4_mostTo_60 : decode cX4_mostTo 60 = .ok (.iload_n 3, 1) := by decide +kernel
theorem dX4_mostTo_61 : decode cX4_mostTo 61 = .ok (.invokevirtual 60, 3) := by decide +kernel
theorem dX4_mostTo_64 : decode cX4_mostTo 64 = .ok (.iconst (-1), 1) := by decide +kernel
theorem dX4_mostTo_65 : decode cX4_mostTo 65 = .ok (.if_icmp .ne 7, 3) := by decide +kernel
theorem dX4_mostTo_68 : decode cX4_mostTo 68 = .ok (.iconst 2, 1) := by decide +kernel
theorem dX4_mostTo_69 : decode cX4_mostTo 69 = .ok (.goto 4, 3) := by decide +kernel
theorem dX4_mostTo_72 : decode cX4_mostTo 72 = .ok (.iconst 1, 1) := by decide +kernel
theorem dX4_mostTo_73 : decode cX4_mostTo 73 = .ok (.imul, 1) := by decide +kernel
theorem dX4_mostTo_74 : decode cX4_mostTo 74 = .ok (.istore_n 2, 1) := by decide +kernel
theorem dX4_mostTo_75 : decode cX4_mostTo 75 = .ok (.iinc 3 1, 3) := by decide +kernel
theorem dX4_mostTo_78 : decode cX4_mostTo 78 = .ok (.goto (-36), 3) := by decide +kernel
theorem dX4_mostTo_81 : decode cX4_mostTo 81 = .ok (.iload_n 2, 1) := by decide +kernel
theorem dX4_mostTo_82 : decode cX4_mostTo 82 = .ok (.ireturn, 1) := by decide +kernel
theorem dX4_listMoves_0 : decode cX4_listMoves 0 = .ok (.aload_n 0, 1) := by decide +kernel
theorem dX4_listMoves_1 : decode cX4_listMoves 1 = .ok (.iconst 0, 1) := by decide +kernel
theorem dX4_listMoves_2 : decode cX4_listMoves 2 = .ok (.putfield 28, 3) := by decide +kernel
theorem dX4_listMoves_5 : decode cX4_listMoves 5 = .ok (.iconst 0, 1) := by decide +kernel
theorem dX4_listMoves_6 : decode cX4_listMoves 6 = .ok (.istore_n 1, 1) := by decide +kernel
theorem dX4_listMoves_7 : decode cX4_listMoves 7 = .ok (.iload_n 1, 1) := by decide +kernel
theorem dX4_listMoves_8 : decode cX4_listMoves 8 = .ok (.bipush 10, 2) := by decide +kernel
theorem dX4_listMoves_10 : decode cX4_listMoves 10 = .ok (.if_icmp .ge 137, 3) := by decide +kernel
theorem dX4_listMoves_13 : decode cX4_listMoves 13 = .ok (.aload_n 0, 1) := by decide +kernel
theorem dX4_listMoves_14 : decode cX4_listMoves 14 = .ok (.iload_n 1, 1) := by decide +kernel
theorem dX4_listMoves_15 : decode cX4_listMoves 15 = .ok (.invokevirtual 60, 3) := by decide +kernel
theorem dX4_listMoves_18 : decode cX4_listMoves 18 = .ok (.iconst (-1), 1) := by decide +kernel
theorem dX4_listMoves_19 : decode cX4_listMoves 19 = .ok (.if_icmp .ne 12, 3) := by decide +kernel
theorem dX4_listMoves_22 : decode cX4_listMoves 22 = .ok (.iload_n 1, 1) := by decide +kernel
theorem dX4_listMoves_23 : decode cX4_listMoves 23 = .ok (.bipush 9, 2) := by decide +kernel
theorem dX4_listMoves_25 : decode cX4_listMoves 25 = .ok (.if_icmp .eq 6, 3) := by decide +kernel
theorem dX4_listMoves_28 : decode cX4_listMoves 28 = .ok (.goto 113, 3) := by decide +kernel
theorem dX4_listMoves_31 : decode cX4_listMoves 31 = .ok (.iload_n 1, 1) := by decide +kernel
theorem dX4_listMoves_32 : decode cX4_listMoves 32 = .ok (.invokestatic 133, 3) := by decide +kernel
theorem dX4_listMoves_35 : decode cX4_listMoves 35 = .ok (.ifCond .eq 11, 3) := by decide +kernel
theorem dX4_listMoves_38 : decode cX4_listMoves 38 = .ok (.aload_n 0, 1) := by decide +kernel
theorem dX4_listMoves_39 : decode cX4_listMoves 39 = .ok (.iload_n 1, 1) := by decide +kernel
theorem dX4_listMoves_40 : decode cX4_listMoves 40 = .ok (.invokevirtual 136, 3) := by decide +kernel
theorem dX4_listMoves_43 : decode cX4_listMoves 43 = .ok (.goto 4, 3) := by decide +kernel
theorem dX4_listMoves_46 : decode cX4_listMoves 46 = .ok (.iconst 1, 1) := by decide +kernel
theorem dX4_listMoves_47 : decode cX4_listMoves 47 = .ok (.istore_n 2, 1) := by decide +kernel
theorem dX4_listMoves_48 : decode cX4_listMoves 48 = .ok (.iconst 0, 1) := by decide +kernel
theorem dX4_listMoves_49 : decode cX4_listMoves 49 = .ok (.istore_n 3, 1) := by decide +kernel
theorem dX4_listMoves_50 : decode cX4_listMoves 50 = .ok (.iload_n 3, 1) := by decide +kernel
theorem dX4_listMoves_51 : decode cX4_listMoves 51 = .ok (.bipush 8, 2) := by decide +kernel
theorem dX4_listMoves_53 : decode cX4_listMoves 53 = .ok (.if_icmp .gt 88, 3) := by decide +kernel
theorem dX4_listMoves_56 : decode cX4_listMoves 56 = .ok (.iload_n 3, 1) := by decide +kernel
theorem dX4_listMoves_57 : decode cX4_listMoves 57 = .ok (.invokestatic 133, 3) := by decide +kernel
theorem dX4_listMoves_60 : decode cX4_listMoves 60 = .ok (.ifCond .eq 7, 3) := by decide +kernel
theorem dX4_listMoves_63 : decode cX4_listMoves 63 = .ok (.iload_n 2, 1) := by decide +kernel
theorem dX4_listMoves_64 : decode cX4_listMoves 64 = .ok (.goto 4, 3) := by decide +kernel
theorem dX4_listMoves_67 : decode cX4_listMoves 67 = .ok (.iconst 1, 1) := by decide +kernel
theorem dX4_listMoves_68 : decode cX4_listMoves 68 = .ok (.istore 4, 2) := by decide +kernel
theorem dX4_listMoves_70 : decode cX4_listMoves 70 = .ok (.iconst 1, 1) := by decide +kernel
theorem dX4_listMoves_71 : decode cX4_listMoves 71 = .ok (.istore 5, 2) := by decide +kernel
theorem dX4_listMoves_73 : decode cX4_listMoves 73 = .ok (.iload 5, 2) := by decide +kernel
theorem dX4_listMoves_75 : decode cX4_listMoves 75 = .ok (.iload 4, 2) := by decide +kernel
theorem dX4_listMoves_77 : decode cX4_listMoves 77 = .ok (.if_icmp .gt 58, 3) := by decide +kernel
theorem dX4_listMoves_80 : decode cX4_listMoves 80 = .ok (.aload_n 0, 1) := by decide +kernel
theorem dX4_listMoves_81 : decode cX4_listMoves 81 = .ok (.getfield 28, 3) := by decide +kernel
theorem dX4_listMoves_84 : decode cX4_listMoves 84 = .ok (.sipush 160, 3) := by decide +kernel
theorem dX4_listMoves_87 : decode cX4_listMoves 87 = .ok (.if_icmp .ge 42, 3) := by decide +kernel
theorem dX4_listMoves_90 : decode cX4_listMoves 90 = .ok (.aload_n 0, 1) := by decide +kernel
theorem dX4_listMoves_91 : decode cX4_listMoves 91 = .ok (.iload_n 1, 1) := by decide +kernel
theorem dX4_listMoves_92 : decode cX4_listMoves 92 = .ok (.iload_n 3, 1) := by decide +kernel
theorem dX4_listMoves_93 : decode cX4_listMoves 93 = .ok (.iload 5, 2) := by decide +kernel
theorem dX4_listMoves_95 : decode cX4_listMoves 95 = .ok (.invokevirtual 158, 3) := by decide +kernel
theorem dX4_listMoves_98 : decode cX4_listMoves 98 = .ok (.ifCond .eq 31, 3) := by decide +kernel
theorem dX4_listMoves_101 : decode cX4_listMoves 101 = .ok (.aload_n 0, 1) := by decide +kernel
theorem dX4_listMoves_102 : decode cX4_listMoves 102 = .ok (.getfield 25, 3) := by decide +kernel
theorem dX4_listMoves_105 : decode cX4_listMoves 105 = .ok (.aload_n 0, 1) := by decide +kernel
theorem dX4_listMoves_106 : decode cX4_listMoves 106 = .ok (.getfield 28, 3) := by decide +kernel
theorem dX4_listMoves_109 : decode cX4_listMoves 109 = .ok (.iload_n 1, 1) := by decide +kernel
theorem dX4_listMoves_110 : decode cX4_listMoves 110 = .ok (.iload_n 3, 1) := by decide +kernel
theorem dX4_listMoves_111 : decode cX4_listMoves 111 = .ok (.iload 5, 2) := by decide +kernel
theorem dX4_listMoves_113 : decode cX4_listMoves 113 = .ok (.invokestatic 162, 3) := by decide +kernel
theorem dX4_listMoves_116 : decode cX4_listMoves 116 = .ok (.invokestatic 166, 3) := by decide +kernel
theorem dX4_listMoves_119 : decode cX4_listMoves 119 = .ok (.aload_n 0, 1) := by decide +kernel
theorem dX4_listMoves_120 : decode cX4_listMoves 120 = .ok (.dup, 1) := by decide +kernel
theorem dX4_listMoves_121 : decode cX4_listMoves 121 = .ok (.getfield 28, 3) := by decide +kernel
theorem dX4_listMoves_124 : decode cX4_listMoves 124 = .ok (.iconst 1, 1) := by decide +kernel
theorem dX4_listMoves_125 : decode cX4_listMoves 125 = .ok (.iadd, 1) := by decide +kernel
theorem dX4_listMoves_126 : decode cX4_listMoves 126 = .ok (.putfield 28, 3) := by decide +kernel
theorem dX4_listMoves_129 : decode cX4_listMoves 129 = .ok (.iinc 5 1, 3) := by decide +kernel
theorem dX4_listMoves_132 : decode cX4_listMoves 132 = .ok (.goto (-59), 3) := by decide +kernel
theorem dX4_listMoves_135 : decode cX4_listMoves 135 = .ok (.iinc 3 1, 3) := by decide +kernel
theorem dX4_listMoves_138 : decode cX4_listMoves 138 = .ok (.goto (-88), 3) := by decide +kernel
theorem dX4_listMoves_141 : decode cX4_listMoves 141 = .ok (.iinc 1 1, 3) := by decide +kernel
theorem dX4_listMoves_144 : decode cX4_listMoves 144 = .ok (.goto (-137), 3) := by decide +kernel
theorem dX4_listMoves_147 : decode cX4_listMoves 147 = .ok (.return_, 1) := by decide +kernel
theorem dX4_listedAt_0 : decode cX4_listedAt 0 = .ok (.iload_n 1, 1) := by decide +kernel
theorem dX4_listedAt_1 : decode cX4_listedAt 1 = .ok (.aload_n 0, 1) := by decide +kernel
theorem dX4_listedAt_2 : decode cX4_listedAt 2 = .ok (.getfield 28, 3) := by decide +kernel
theorem dX4_listedAt_5 : decode cX4_listedAt 5 = .ok (.if_icmp .ge 14, 3) := by decide +kernel
theorem dX4_listedAt_8 : decode cX4_listedAt 8 = .ok (.aload_n 0, 1) := by decide +kernel
theorem dX4_listedAt_9 : decode cX4_listedAt 9 = .ok (.getfield 25, 3) := by decide +kernel
theorem dX4_listedAt_12 : decode cX4_listedAt 12 = .ok (.iload_n 1, 1) := by decide +kernel
theorem dX4_listedAt_13 : decode cX4_listedAt 13 = .ok (.invokestatic 92, 3) := by decide +kernel
theorem dX4_listedAt_16 : decode cX4_listedAt 16 = .ok (.goto 4, 3) := by decide +kernel
theorem dX4_listedAt_19 : decode cX4_listedAt 19 = .ok (.iconst (-1), 1) := by decide +kernel
theorem dX4_listedAt_20 : decode cX4_listedAt 20 = .ok (.ireturn, 1) := by decide +kernel
theorem dX4_firstSafePlace_0 : decode cX4_firstSafePlace 0 = .ok (.iconst 0, 1) := by decide +kernel
theorem dX4_firstSafePlace_1 : decode cX4_firstSafePlace 1 = .ok (.istore_n 1, 1) := by decide +kernel
theorem dX4_firstSafePlace_2 : decode cX4_firstSafePlace 2 = .ok (.iload_n 1, 1) := by decide +kernel
theorem dX4_firstSafePlace_3 : decode cX4_firstSafePlace 3 = .ok (.bipush 7, 2) := by decide +kernel
theorem dX4_firstSafePlace_5 : decode cX4_firstSafePlace 5 = .ok (.if_icmp .gt 34, 3) := by decide +kernel
theorem dX4_firstSafePlace_8 : decode cX4_firstSafePlace 8 = .ok (.aload_n 0, 1) := by decide +kernel
theorem dX4_firstSafePlace_9 : decode cX4_firstSafePlace 9 = .ok (.iload_n 1, 1) := by decide +kernel
theorem dX4_firstSafePlace_10 : decode cX4_firstSafePlace 10 = .ok (.bipush 8, 2) := by decide +kernel
theorem dX4_firstSafePlace_12 : decode cX4_firstSafePlace 12 = .ok (.iconst 1, 1) := by decide +kernel
theorem dX4_firstSafePlace_13 : decode cX4_firstSafePlace 13 = .ok (.invokevirtual 158, 3) := by decide +kernel
theorem dX4_firstSafePlace_16 : decode cX4_firstSafePlace 16 = .ok (.ifCond .eq 17, 3) := by decide +kernel
theorem dX4_firstSafePlace_19 : decode cX4_firstSafePlace 19 = .ok (.aload_n 0, 1) := by decide +kernel
theorem dX4_firstSafePlace_20 : decode cX4_firstSafePlace 20 = .ok (.aload_n 0, 1) := by decide +kernel
theorem dX4_firstSafePlace_21 : decode cX4_firstSafePlace 21 = .ok (.iload_n 1, 1) := by decide +kernel
theorem dX4_firstSafePlace_22 : decode cX4_firstSafePlace 22 = .ok (.invokevirtual 60, 3) := by decide +kernel
theorem dX4_firstSafePlace_25 : decode cX4_firstSafePlace 25 = .ok (.invokevirtual 170, 3) := by decide +kernel
theorem dX4_firstSafePlace_28 : decode cX4_firstSafePlace 28 = .ok (.ifCond .eq 5, 3) := by decide +kernel
theorem dX4_firstSafePlace_31 : decode cX4_firstSafePlace 31 = .ok (.iload_n 1, 1) := by decide +kernel
theorem dX4_firstSafePlace_32 : decode cX4_firstSafePlace 32 = .ok (.ireturn, 1) := by decide +kernel
theorem dX4_firstSafePlace_33 : decode cX4_firstSafePlace 33 = .ok (.iinc 1 1, 3) := by decide +kernel
theorem dX4_firstSafePlace_36 : decode cX4_firstSafePlace 36 = .ok (.goto (-34), 3) := by decide +kernel
theorem dX4_firstSafePlace_39 : decode cX4_firstSafePlace 39 = .ok (.iconst (-1), 1) := by decide +kernel
theorem dX4_firstSafePlace_40 : decode cX4_firstSafePlace 40 = .ok (.ireturn, 1) := by decide +kernel
theorem dX4_isSafeUp_0 : decode cX4_isSafeUp 0 = .ok (.iconst 0, 1) := by decide +kernel
theorem dX4_isSafeUp_1 : decode cX4_isSafeUp 1 = .ok (.istore_n 2, 1) := by decide +kernel
theorem dX4_isSafeUp_2 : decode cX4_isSafeUp 2 = .ok (.iload_n 2, 1) := by decide +kernel
theorem dX4_isSafeUp_3 : decode cX4_isSafeUp 3 = .ok (.aload_n 0, 1) := by decide +kernel
theorem dX4_isSafeUp_4 : decode cX4_isSafeUp 4 = .ok (.getfield 12, 3) := by decide +kernel
theorem dX4_isSafeUp_7 : decode cX4_isSafeUp 7 = .ok (.invokevirtual 54, 3) := by decide +kernel
theorem dX4_isSafeUp_10 : decode cX4_isSafeUp 10 = .ok (.if_icmp .ge 31, 3) := by decide +kernel
theorem dX4_isSafeUp_13 : decode cX4_isSafeUp 13 = .ok (.aload_n 0, 1) := by decide +kernel
theorem dX4_isSafeUp_14 : decode cX4_isSafeUp 14 = .ok (.iload_n 2, 1) := by decide +kernel
theorem dX4_isSafeUp_15 : decode cX4_isSafeUp 15 = .ok (.invokevirtual 96, 3) := by decide +kernel
theorem dX4_isSafeUp_18 : decode cX4_isSafeUp 18 = .ok (.ifCond .ne 17, 3) := by decide +kernel
theorem dX4_isSafeUp_21 : decode cX4_isSafeUp 21 = .ok (.aload_n 0, 1) := by decide +kernel
theorem dX4_isSafeUp_22 : decode cX4_isSafeUp 22 = .ok (.getfield 12, 3) := by decide +kernel
theorem dX4_isSafeUp_25 : decode cX4_isSafeUp 25 = .ok (.iload_n 2, 1) := by decide +kernel
theorem dX4_isSafeUp_26 : decode cX4_isSafeUp 26 = .ok (.iload_n 1, 1) := by decide +kernel
theorem dX4_isSafeUp_27 : decode cX4_isSafeUp 27 = .ok (.invokevirtual 155, 3) := by decide +kernel
theorem dX4_isSafeUp_30 : decode cX4_isSafeUp 30 = .ok (.ifCond .eq 5, 3) := by decide +kernel
theorem dX4_isSafeUp_33 : decode cX4_isSafeUp 33 = .ok (.iconst 0, 1) := by decide +kernel
theorem dX4_isSafeUp_34 : decode cX4_isSafeUp 34 = .ok (.ireturn, 1) := by decide +kernel
theorem dX4_isSafeUp_35 : decode cX4_isSafeUp 35 = .ok (.iinc 2 1, 3) := by decide +kernel
theorem dX4_isSafeUp_38 : decode cX4_isSafeUp 38 = .ok (.goto (-36), 3) := by decide +kernel
theorem dX4_isSafeUp_41 : decode cX4_isSafeUp 41 = .ok (.iconst 1, 1) := by decide +kernel
theorem dX4_isSafeUp_42 : decode cX4_isSafeUp 42 = .ok (.ireturn, 1) := by decide +kernel
theorem dX4_play_0 : decode cX4_play 0 = .ok (.iload_n 1, 1) := by decide +kernel
theorem dX4_play_1 : decode cX4_play 1 = .ok (.sipush 1000, 3) := by decide +kernel
theorem dX4_play_4 : decode cX4_play 4 = .ok (.idiv, 1) := by decide +kernel
theorem dX4_play_5 : decode cX4_play 5 = .ok (.istore_n 2, 1) := by decide +kernel
theorem dX4_play_6 : decode cX4_play 6 = .ok (.iload_n 2, 1) := by decide +kernel
theorem dX4_play_7 : decode cX4_play 7 = .ok (.bipush 9, 2) := by decide +kernel
theorem dX4_play_9 : decode cX4_play 9 = .ok (.if_icmp .eq 22, 3) := by decide +kernel
theorem dX4_play_12 : decode cX4_play 12 = .ok (.aload_n 0, 1) := by decide +kernel
theorem dX4_play_13 : decode cX4_play 13 = .ok (.iload_n 2, 1) := by decide +kernel
theorem dX4_play_14 : decode cX4_play 14 = .ok (.iload_n 1, 1) := by decide +kernel
theorem dX4_play_15 : decode cX4_play 15 = .ok (.bipush 100, 2) := by decide +kernel
theorem dX4_play_17 : decode cX4_play 17 = .ok (.idiv, 1) := by decide +kernel
theorem dX4_play_18 : decode cX4_play 18 = .ok (.bipush 10, 2) := by decide +kernel
theorem dX4_play_20 : decode cX4_play 20 = .ok (.irem, 1) := by decide +kernel
theorem dX4_play_21 : decode cX4_play 21 = .ok (.iload_n 1, 1) := by decide +kernel
theorem dX4_play_22 : decode cX4_play 22 = .ok (.bipush 100, 2) := by decide +kernel
theorem dX4_play_24 : decode cX4_play 24 = .ok (.irem, 1) := by decide +kernel
theorem dX4_play_25 : decode cX4_play 25 = .ok (.invokevirtual 173, 3) := by decide +kernel
theorem dX4_play_28 : decode cX4_play 28 = .ok (.goto 29, 3) := by decide +kernel
theorem dX4_play_31 : decode cX4_play 31 = .ok (.aload_n 0, 1) := by decide +kernel
theorem dX4_play_32 : decode cX4_play 32 = .ok (.bipush 9, 2) := by decide +kernel
theorem dX4_play_34 : decode cX4_play 34 = .ok (.invokevirtual 60, 3) := by decide +kernel
theorem dX4_play_37 : decode cX4_play 37 = .ok (.iconst (-1), 1) := by decide +kernel
theorem dX4_play_38 : decode cX4_play 38 = .ok (.if_icmp .eq 15, 3) := by decide +kernel
theorem dX4_play_41 : decode cX4_play 41 = .ok (.aload_n 0, 1) := by decide +kernel
theorem dX4_play_42 : decode cX4_play 42 = .ok (.bipush 9, 2) := by decide +kernel
theorem dX4_play_44 : decode cX4_play 44 = .ok (.bipush 7, 2) := by decide +kernel
theorem dX4_play_46 : decode cX4_play 46 = .ok (.iconst 1, 1) := by decide +kernel
theorem dX4_play_47 : decode cX4_play 47 = .ok (.invokevirtual 173, 3) := by decide +kernel
theorem dX4_play_50 : decode cX4_play 50 = .ok (.goto 7, 3) := by decide +kernel
theorem dX4_play_53 : decode cX4_play 53 = .ok (.aload_n 0, 1) := by decide +kernel
theorem dX4_play_54 : decode cX4_play 54 = .ok (.invokevirtual 176, 3) := by decide +kernel
theorem dX4_play_57 : decode cX4_play 57 = .ok (.return_, 1) := by decide +kernel
theorem dX4_turnOver_0 : decode cX4_turnOver 0 = .ok (.iconst 0, 1) := by decide +kernel
theorem dX4_turnOver_1 : decode cX4_turnOver 1 = .ok (.istore_n 1, 1) := by decide +kernel
theorem dX4_turnOver_2 : decode cX4_turnOver 2 = .ok (.iload_n 1, 1) := by decide +kernel
theorem dX4_turnOver_3 : decode cX4_turnOver 3 = .ok (.bipush 16, 2) := by decide +kernel
theorem dX4_turnOver_5 : decode cX4_turnOver 5 = .ok (.if_icmp .ge 28, 3) := by decide +kernel
theorem dX4_turnOver_8 : decode cX4_turnOver 8 = .ok (.aload_n 0, 1) := by decide +kernel
theorem dX4_turnOver_9 : decode cX4_turnOver 9 = .ok (.bipush 7, 2) := by decide +kernel
theorem dX4_turnOver_11 : decode cX4_turnOver 11 = .ok (.invokevirtual 60, 3) := by decide +kernel
theorem dX4_turnOver_14 : decode cX4_turnOver 14 = .ok (.iconst (-1), 1) := by decide +kernel
theorem dX4_turnOver_15 : decode cX4_turnOver 15 = .ok (.if_icmp .eq 18, 3) := by decide +kernel
theorem dX4_turnOver_18 : decode cX4_turnOver 18 = .ok (.aload_n 0, 1) := by decide +kernel
theorem dX4_turnOver_19 : decode cX4_turnOver 19 = .ok (.bipush 7, 2) := by decide +kernel
theorem dX4_turnOver_21 : decode cX4_turnOver 21 = .ok (.bipush 9, 2) := by decide +kernel
theorem dX4_turnOver_23 : decode cX4_turnOver 23 = .ok (.iconst 1, 1) := by decide +kernel
theorem dX4_turnOver_24 : decode cX4_turnOver 24 = .ok (.invokevirtual 173, 3) := by decide +kernel
theorem dX4_turnOver_27 : decode cX4_turnOver 27 = .ok (.iinc 1 1, 3) := by decide +kernel
theorem dX4_turnOver_30 : decode cX4_turnOver 30 = .ok (.goto (-28), 3) := by decide +kernel
theorem dX4_turnOver_33 : decode cX4_turnOver 33 = .ok (.aload_n 0, 1) := by decide +kernel
theorem dX4_turnOver_34 : decode cX4_turnOver 34 = .ok (.dup, 1) := by decide +kernel
theorem dX4_turnOver_35 : decode cX4_turnOver 35 = .ok (.getfield 35, 3) := by decide +kernel
theorem dX4_turnOver_38 : decode cX4_turnOver 38 = .ok (.iconst 1, 1) := by decide +kernel
theorem dX4_turnOver_39 : decode cX4_turnOver 39 = .ok (.iadd, 1) := by decide +kernel
theorem dX4_turnOver_40 : decode cX4_turnOver 40 = .ok (.putfield 35, 3) := by decide +kernel
theorem dX4_turnOver_43 : decode cX4_turnOver 43 = .ok (.return_, 1) := by decide +kernel
theorem dX4_carry_0 : decode cX4_carry 0 = .ok (.aload_n 0, 1) := by decide +kernel
theorem dX4_carry_1 : decode cX4_carry 1 = .ok (.iload_n 1, 1) := by decide +kernel
theorem dX4_carry_2 : decode cX4_carry 2 = .ok (.iload_n 3, 1) := by decide +kernel
theorem dX4_carry_3 : decode cX4_carry 3 = .ok (.iconst 1, 1) := by decide +kernel
theorem dX4_carry_4 : decode cX4_carry 4 = .ok (.isub, 1) := by decide +kernel
theorem dX4_carry_5 : decode cX4_carry 5 = .ok (.invokevirtual 114, 3) := by decide +kernel
theorem dX4_carry_8 : decode cX4_carry 8 = .ok (.istore 4, 2) := by decide +kernel
theorem dX4_carry_10 : decode cX4_carry 10 = .ok (.aload_n 0, 1) := by decide +kernel
theorem dX4_carry_11 : decode cX4_carry 11 = .ok (.iload_n 1, 1) := by decide +kernel
theorem dX4_carry_12 : decode cX4_carry 12 = .ok (.invokevirtual 60, 3) := by decide +kernel
theorem dX4_carry_15 : decode cX4_carry 15 = .ok (.istore 5, 2) := by decide +kernel
theorem dX4_carry_17 : decode cX4_carry 17 = .ok (.aload_n 0, 1) := by decide +kernel
theorem dX4_carry_18 : decode cX4_carry 18 = .ok (.iload 4, 2) := by decide +kernel
theorem dX4_carry_20 : decode cX4_carry 20 = .ok (.invokevirtual 108, 3) := by decide +kernel
theorem dX4_carry_23 : decode cX4_carry 23 = .ok (.istore 6, 2) := by decide +kernel
theorem dX4_carry_25 : decode cX4_carry 25 = .ok (.aload_n 0, 1) := by decide +kernel
theorem dX4_carry_26 : decode cX4_carry 26 = .ok (.getfield 22, 3) := by decide +kernel
theorem dX4_carry_29 : decode cX4_carry 29 = .ok (.iload_n 1, 1) := by decide +kernel
theorem dX4_carry_30 : decode cX4_carry 30 = .ok (.iload 6, 2) := by decide +kernel
theorem dX4_carry_32 : decode cX4_carry 32 = .ok (.invokestatic 166, 3) := by decide +kernel
theorem dX4_carry_35 : decode cX4_carry 35 = .ok (.iload 6, 2) := by decide +kernel
theorem dX4_carry_37 : decode cX4_carry 37 = .ok (.invokestatic 68, 3) := by decide +kernel
theorem dX4_carry_40 : decode cX4_carry 40 = .ok (.ifCond .eq 18, 3) := by decide +kernel
theorem dX4_carry_43 : decode cX4_carry 43 = .ok (.aload_n 0, 1) := by decide +kernel
theorem dX4_carry_44 : decode cX4_carry 44 = .ok (.dup, 1) := by decide +kernel
theorem dX4_carry_45 : decode cX4_carry 45 = .ok (.getfield 32, 3) := by decide +kernel
theorem dX4_carry_48 : decode cX4_carry 48 = .ok (.iconst 1, 1) := by decide +kernel
theorem dX4_carry_49 : decode cX4_carry 49 = .ok (.iload 6, 2) := by decide +kernel
theorem dX4_carry_51 : decode cX4_carry 51 = .ok (.ishl, 1) := by decide +kernel
theorem dX4_carry_52 : decode cX4_carry 52 = .ok (.iconst (-1), 1) := by decide +kernel
theorem dX4_carry_53 : decode cX4_carry 53 = .ok (.ixor, 1) := by decide +kernel
theorem dX4_carry_54 : decode cX4_carry 54 = .ok (.iand, 1) := by decide +kernel
theorem dX4_carry_55 : decode cX4_carry 55 = .ok (.putfield 32, 3) := by decide +kernel
theorem dX4_carry_58 : decode cX4_carry 58 = .ok (.aload_n 0, 1) := by decide +kernel
theorem dX4_carry_59 : decode cX4_carry 59 = .ok (.iload 4, 2) := by decide +kernel
theorem dX4_carry_61 : decode cX4_carry 61 = .ok (.iload 5, 2) := by decide +kernel
theorem dX4_carry_63 : decode cX4_carry 63 = .ok (.iload_n 2, 1) := by decide +kernel
theorem dX4_carry_64 : decode cX4_carry 64 = .ok (.invokevirtual 77, 3) := by decide +kernel
theorem dX4_carry_67 : decode cX4_carry 67 = .ok (.return_, 1) := by decide +kernel
theorem dX4_layOn_0 : decode cX4_layOn 0 = .ok (.aload_n 0, 1) := by decide +kernel
theorem dX4_layOn_1 : decode cX4_layOn 1 = .ok (.iload_n 3, 1) := by decide +kernel
theorem dX4_layOn_2 : decode cX4_layOn 2 = .ok (.invokevirtual 60, 3) := by decide +kernel
theorem dX4_layOn_5 : decode cX4_layOn 5 = .ok (.istore 4, 2) := by decide +kernel
theorem dX4_layOn_7 : decode cX4_layOn 7 = .ok (.aload_n 0, 1) := by decide +kernel
theorem dX4_layOn_8 : decode cX4_layOn 8 = .ok (.getfield 18, 3) := by decide +kernel
theorem dX4_layOn_11 : decode cX4_layOn 11 = .ok (.iload_n 1, 1) := by decide +kernel
theorem dX4_layOn_12 : decode cX4_layOn 12 = .ok (.iload 4, 2) := by decide +kernel
theorem dX4_layOn_14 : decode cX4_layOn 14 = .ok (.iconst (-1), 1) := by decide +kernel
theorem dX4_layOn_15 : decode cX4_layOn 15 = .ok (.if_icmp .ne 10, 3) := by decide +kernel
theorem dX4_layOn_18 : decode cX4_layOn 18 = .ok (.iload_n 3, 1) := by decide +kernel
theorem dX4_layOn_19 : decode cX4_layOn 19 = .ok (.invokestatic 179, 3) := by decide +kernel
theorem dX4_layOn_22 : decode cX4_layOn 22 = .ok (.goto 5, 3) := by decide +kernel
theorem dX4_layOn_25 : decode cX4_layOn 25 = .ok (.iload 4, 2) := by decide +kernel
theorem dX4_layOn_27 : decode cX4_layOn 27 = .ok (.invokestatic 166, 3) := by decide +kernel
theorem dX4_layOn_30 : decode cX4_layOn 30 = .ok (.iload_n 3, 1) := by decide +kernel
theorem dX4_layOn_31 : decode cX4_layOn 31 = .ok (.bipush 8, 2) := by decide +kernel
theorem dX4_layOn_33 : decode cX4_layOn 33 = .ok (.if_icmp .eq 12, 3) := by decide +kernel
theorem dX4_layOn_36 : decode cX4_layOn 36 = .ok (.aload_n 0, 1) := by decide +kernel
theorem dX4_layOn_37 : decode cX4_layOn 37 = .ok (.getfield 22, 3) := by decide +kernel
theorem dX4_layOn_40 : decode cX4_layOn 40 = .ok (.iload_n 3, 1) := by decide +kernel
theorem dX4_layOn_41 : decode cX4_layOn 41 = .ok (.iload_n 2, 1) := by decide +kernel
theorem dX4_layOn_42 : decode cX4_layOn 42 = .ok (.invokestatic 166, 3) := by decide +kernel
theorem dX4_layOn_45 : decode cX4_layOn 45 = .ok (.return_, 1) := by decide +kernel
theorem dX4_floorOf_0 : decode cX4_floorOf 0 = .ok (.iload_n 0, 1) := by decide +kernel
theorem dX4_floorOf_1 : decode cX4_floorOf 1 = .ok (.tableswitch 36 7 9 #[27, 30, 33], 27) := by decide +kernel
theorem dX4_floorOf_28 : decode cX4_floorOf 28 = .ok (.bipush 18, 2) := by decide +kernel
theorem dX4_floorOf_30 : decode cX4_floorOf 30 = .ok (.ireturn, 1) := by decide +kernel
theorem dX4_floorOf_31 : decode cX4_floorOf 31 = .ok (.bipush 20, 2) := by decide +kernel
theorem dX4_floorOf_33 : decode cX4_floorOf 33 = .ok (.ireturn, 1) := by decide +kernel
theorem dX4_floorOf_34 : decode cX4_floorOf 34 = .ok (.bipush 19, 2) := by decide +kernel
theorem dX4_floorOf_36 : decode cX4_floorOf 36 = .ok (.ireturn, 1) := by decide +kernel
theorem dX4_floorOf_37 : decode cX4_floorOf 37 = .ok (.iload_n 0, 1) := by decide +kernel
theorem dX4_floorOf_38 : decode cX4_floorOf 38 = .ok (.iconst 5, 1) := by decide +kernel
theorem dX4_floorOf_39 : decode cX4_floorOf 39 = .ok (.if_icmp .ge 8, 3) := by decide +kernel
theorem dX4_floorOf_42 : decode cX4_floorOf 42 = .ok (.bipush 16, 2) := by decide +kernel
theorem dX4_floorOf_44 : decode cX4_floorOf 44 = .ok (.goto 5, 3) := by decide +kernel
theorem dX4_floorOf_47 : decode cX4_floorOf 47 = .ok (.bipush 17, 2) := by decide +kernel
theorem dX4_floorOf_49 : decode cX4_floorOf 49 = .ok (.ireturn, 1) := by decide +kernel
theorem dX5_init_0 : decode cX5_init 0 = .ok (.aload_n 0, 1) := by decide +kernel
theorem dX5_init_1 : decode cX5_init 1 = .ok (.invokespecial 1, 3) := by decide +kernel
theorem dX5_init_4 : decode cX5_init 4 = .ok (.aload_n 0, 1) := by decide +kernel
theorem dX5_init_5 : decode cX5_init 5 = .ok (.new 7, 3) := by decide +kernel
theorem dX5_init_8 : decode cX5_init 8 = .ok (.dup, 1) := by decide +kernel
theorem dX5_init_9 : decode cX5_init 9 = .ok (.invokespecial 9, 3) := by decide +kernel
theorem dX5_init_12 : decode cX5_init 12 = .ok (.putfield 10, 3) := by decide +kernel
theorem dX5_init_15 : decode cX5_init 15 = .ok (.aload_n 0, 1) := by decide +kernel
theorem dX5_init_16 : decode cX5_init 16 = .ok (.new 7, 3) := by decide +kernel
theorem dX5_init_19 : decode cX5_init 19 = .ok (.dup, 1) := by decide +kernel
theorem dX5_init_20 : decode cX5_init 20 = .ok (.invokespecial 9, 3) := by decide +kernel
theorem dX5_init_23 : decode cX5_init 23 = .ok (.putfield 16, 3) := by decide +kernel
theorem dX5_init_26 : decode cX5_init 26 = .ok (.aload_n 0, 1) := by decide +kernel
theorem dX5_init_27 : decode cX5_init 27 = .ok (.new 19, 3) := by decide +kernel
theorem dX5_init_30 : decode cX5_init 30 = .ok (.dup, 1) := by decide +kernel
theorem dX5_init_31 : decode cX5_init 31 = .ok (.invokespecial 21, 3) := by decide +kernel
theorem dX5_init_34 : decode cX5_init 34 = .ok (.putfield 22, 3) := by decide +kernel
theorem dX5_init_37 : decode cX5_init 37 = .ok (.aload_n 0, 1) := by decide +kernel
theorem dX5_init_38 : decode cX5_init 38 = .ok (.new 26, 3) := by decide +kernel
theorem dX5_init_41 : decode cX5_init 41 = .ok (.dup, 1) := by decide +kernel
theorem dX5_init_42 : decode cX5_init 42 = .ok (.sipush 200, 3) := by decide +kernel
theorem dX5_init_45 : decode cX5_init 45 = .ok (.invokespecial 28, 3) := by decide +kernel
theorem dX5_init_48 : decode cX5_init 48 = .ok (.putfield 31, 3) := by decide +kernel
theorem dX5_init_51 : decode cX5_init 51 = .ok (.aload_n 0, 1) := by decide +kernel
theorem dX5_init_52 : decode cX5_init 52 = .ok (.new 35, 3) := by decide +kernel
theorem dX5_init_55 : decode cX5_init 55 = .ok (.dup, 1) := by decide +kernel
theorem dX5_init_56 : decode cX5_init 56 = .ok (.invokespecial 37, 3) := by decide +kernel
theorem dX5_init_59 : decode cX5_init 59 = .ok (.putfield 38, 3) := by decide +kernel
theorem dX5_init_62 : decode cX5_init 62 = .ok (.aload_n 0, 1) := by decide +kernel
theorem dX5_init_63 : decode cX5_init 63 = .ok (.new 42, 3) := by decide +kernel
theorem dX5_init_66 : decode cX5_init 66 = .ok (.dup, 1) := by decide +kernel
theorem dX5_init_67 : decode cX5_init 67 = .ok (.invokespecial 44, 3) := by decide +kernel
theorem dX5_init_70 : decode cX5_init 70 = .ok (.putfield 45, 3) := by decide +kernel
theorem dX5_init_73 : decode cX5_init 73 = .ok (.aload_n 0, 1) := by decide +kernel
theorem dX5_init_74 : decode cX5_init 74 = .ok (.new 42, 3) := by decide +kernel
theorem dX5_init_77 : decode cX5_init 77 = .ok (.dup, 1) := by decide +kernel
theorem dX5_init_78 : decode cX5_init 78 = .ok (.invokespecial 44, 3) := by decide +kernel
theorem dX5_init_81 : decode cX5_init 81 = .ok (.putfield 49, 3) := by decide +kernel
theorem dX5_init_84 : decode cX5_init 84 = .ok (.aload_n 0, 1) := by decide +kernel
theorem dX5_init_85 : decode cX5_init 85 = .ok (.iconst 0, 1) := by decide +kernel
theorem dX5_init_86 : decode cX5_init 86 = .ok (.putfield 52, 3) := by decide +kernel
theorem dX5_init_89 : decode cX5_init 89 = .ok (.aload_n 0, 1) := by decide +kernel
theorem dX5_init_90 : decode cX5_init 90 = .ok (.iconst 0, 1) := by decide +kernel
theorem dX5_init_91 : decode cX5_init 91 = .ok (.putfield 56, 3) := by decide +kernel
theorem dX5_init_94 : decode cX5_init 94 = .ok (.aload_n 0, 1) := by decide +kernel
theorem dX5_init_95 : decode cX5_init 95 = .ok (.iconst 0, 1) := by decide +kernel
theorem dX5_init_96 : decode cX5_init 96 = .ok (.putfield 59, 3) := by decide +kernel
theorem dX5_init_99 : decode cX5_init 99 = .ok (.aload_n 0, 1) := by decide +kernel
theorem dX5_init_100 : decode cX5_init 100 = .ok (.iconst 0, 1) := by decide +kernel
theorem dX5_init_101 : decode cX5_init 101 = .ok (.iconst 0, 1) := by decide +kernel
theorem dX5_init_102 : decode cX5_init 102 = .ok (.invokevirtual 62, 3) := by decide +kernel
theorem dX5_init_105 : decode cX5_init 105 = .ok (.return_, 1) := by decide +kernel
theorem dX5_deck_0 : decode cX5_deck 0 = .ok (.iload_n 1, 1) := by decide +kernel
theorem dX5_deck_1 : decode cX5_deck 1 = .ok (.iconst 1, 1) := by decide +kernel
theorem dX5_deck_2 : decode cX5_deck 2 = .ok (.iconst 4, 1) := by decide +kernel
theorem dX5_deck_3 : decode cX5_deck 3 = .ok (.invokestatic 66, 3) := by decide +kernel
theorem dX5_deck_6 : decode cX5_deck 6 = .ok (.ifCond .eq 13, 3) := by decide +kernel
theorem dX5_deck_9 : decode cX5_deck 9 = .ok (.iload_n 2, 1) := by decide +kernel
theorem dX5_deck_10 : decode cX5_deck 10 = .ok (.iconst 1, 1) := by decide +kernel
theorem dX5_deck_11 : decode cX5_deck 11 = .ok (.bipush 6, 2) := by decide +kernel
theorem dX5_deck_13 : decode cX5_deck 13 = .ok (.invokestatic 66, 3) := by decide +kernel
theorem dX5_deck_16 : decode cX5_deck 16 = .ok (.ifCond .ne 13, 3) := by decide +kernel
theorem dX5_deck_19 : decode cX5_deck 19 = .ok (.new 70, 3) := by decide +kernel
theorem dX5_deck_22 : decode cX5_deck 22 = .ok (.dup, 1) := by decide +kernel
theorem dX5_deck_23 : decode cX5_deck 23 = .ok (.ldc 72, 2) := by decide +kernel
theorem dX5_deck_25 : decode cX5_deck 25 = .ok (.invokespecial 74, 3) := by decide +kernel
theorem dX5_deck_28 : decode cX5_deck 28 = .ok (.athrow, 1) := by decide +kernel
theorem dX5_deck_29 : decode cX5_deck 29 = .ok (.iload_n 1, 1) := by decide +kernel
theorem dX5_deck_30 : decode cX5_deck 30 = .ok (.iload_n 2, 1) := by decide +kernel
theorem dX5_deck_31 : decode cX5_deck 31 = .ok (.imul, 1) := by decide +kernel
theorem dX5_deck_32 : decode cX5_deck 32 = .ok (.istore_n 3, 1) := by decide +kernel
theorem dX5_deck_33 : decode cX5_deck 33 = .ok (.iload_n 3, 1) := by decide +kernel
theorem dX5_deck_34 : decode cX5_deck 34 = .ok (.iconst 2, 1) := by decide +kernel
theorem dX5_deck_35 : decode cX5_deck 35 = .ok (.bipush 16, 2) := by decide +kernel
theorem dX5_deck_37 : decode cX5_deck 37 = .ok (.invokestatic 66, 3) := by decide +kernel
theorem dX5_deck_40 : decode cX5_deck 40 = .ok (.ifCond .eq 14, 3) := by decide +kernel
theorem dX5_deck_43 : decode cX5_deck 43 = .ok (.iload_n 3, 1) := by decide +kernel
theorem dX5_deck_44 : decode cX5_deck 44 = .ok (.aload_n 0, 1) := by decide +kernel
theorem dX5_deck_45 : decode cX5_deck 45 = .ok (.getfield 10, 3) := by decide +kernel
theorem dX5_deck_48 : decode cX5_deck 48 = .ok (.getfield 77, 3) := by decide +kernel
theorem dX5_deck_51 : decode cX5_deck 51 = .ok (.if_icmp .gt 13, 3) := by decide +kernel
theorem dX5_deck_54 : decode cX5_deck 54 = .ok (.new 70, 3) := by decide +kernel
theorem dX5_deck_57 : decode cX5_deck 57 = .ok (.dup, 1) := by decide +kernel
theorem dX5_deck_58 : decode cX5_deck 58 = .ok (.ldc 80, 2) := by decide +kernel
theorem dX5_deck_60 : decode cX5_deck 60 = .ok (.invokespecial 74, 3) := by decide +kernel
theorem dX5_deck_63 : decode cX5_deck 63 = .ok (.athrow, 1) := by decide +kernel
theorem dX5_deck_64 : decode cX5_deck 64 = .ok (.aload_n 0, 1) := by decide +kernel
theorem dX5_deck_65 : decode cX5_deck 65 = .ok (.getfield 10, 3) := by decide +kernel
theorem dX5_deck_68 : decode cX5_deck 68 = .ok (.iload_n 1, 1) := by decide +kernel
theorem dX5_deck_69 : decode cX5_deck 69 = .ok (.putfield 82, 3) := by decide +kernel
theorem dX5_deck_72 : decode cX5_deck 72 = .ok (.aload_n 0, 1) := by decide +kernel
theorem dX5_deck_73 : decode cX5_deck 73 = .ok (.getfield 10, 3) := by decide +kernel
theorem dX5_deck_76 : decode cX5_deck 76 = .ok (.iload_n 2, 1) := by decide +kernel
theorem dX5_deck_77 : decode cX5_deck 77 = .ok (.putfield 85, 3) := by decide +kernel
theorem dX5_deck_80 : decode cX5_deck 80 = .ok (.iload_n 3, 1) := by decide +kernel
theorem dX5_deck_81 : decode cX5_deck 81 = .ok (.ireturn, 1) := by decide +kernel
theorem dX5_table_0 : decode cX5_table 0 = .ok (.iload_n 1, 1) := by decide +kernel
theorem dX5_table_1 : decode cX5_table 1 = .ok (.iconst 1, 1) := by decide +kernel
theorem dX5_table_2 : decode cX5_table 2 = .ok (.iconst 5, 1) := by decide +kernel
theorem dX5_table_3 : decode cX5_table 3 = .ok (.invokestatic 66, 3) := by decide +kernel
theorem dX5_table_6 : decode cX5_table 6 = .ok (.ifCond .eq 12, 3) := by decide +kernel
theorem dX5_table_9 : decode cX5_table 9 = .ok (.iload_n 2, 1) := by decide +kernel
theorem dX5_table_10 : decode cX5_table 10 = .ok (.iconst 0, 1) := by decide +kernel
theorem dX5_table_11 : decode cX5_table 11 = .ok (.iconst 2, 1) := by decide +kernel
theorem dX5_table_12 : decode cX5_table 12 = .ok (.invokestatic 66, 3) := by decide +kernel
theorem dX5_table_15 : decode cX5_table 15 = .ok (.ifCond .ne 13, 3) := by decide +kernel
theorem dX5_table_18 : decode cX5_table 18 = .ok (.new 70, 3) := by decide +kernel
theorem dX5_table_21 : decode cX5_table 21 = .ok (.dup, 1) := by decide +kernel
theorem dX5_table_22 : decode cX5_table 22 = .ok (.ldc 88, 2) := by decide +kernel
theorem dX5_table_24 : decode cX5_table 24 = .ok (.invokespecial 74, 3) := by decide +kernel
theorem dX5_table_27 : decode cX5_table 27 = .ok (.athrow, 1) := by decide +kernel
theorem dX5_table_28 : decode cX5_table 28 = .ok (.iload_n 3, 1) := by decide +kernel
theorem dX5_table_29 : decode cX5_table 29 = .ok (.iconst 0, 1) := by decide +kernel
theorem dX5_table_30 : decode cX5_table 30 = .ok (.iconst 2, 1) := by decide +kernel
theorem dX5_table_31 : decode cX5_table 31 = .ok (.invokestatic 66, 3) := by decide +kernel
theorem dX5_table_34 : decode cX5_table 34 = .ok (.ifCond .eq 13, 3) := by decide +kernel
theorem dX5_table_37 : decode cX5_table 37 = .ok (.iload 4, 2) := by decide +kernel
theorem dX5_table_39 : decode cX5_table 39 = .ok (.iconst 0, 1) := by decide +kernel
theorem dX5_table_40 : decode cX5_table 40 = .ok (.iconst 2, 1) := by decide +kernel
theorem dX5_table_41 : decode cX5_table 41 = .ok (.invokestatic 66, 3) := by decide +kernel
theorem dX5_table_44 : decode cX5_table 44 = .ok (.ifCond .ne 13, 3) := by decide +kernel
theorem dX5_table_47 : decode cX5_table 47 = .ok (.new 70, 3) := by decide +kernel
theorem dX5_table_50 : decode cX5_table 50 = .ok (.dup, 1) := by decide +kernel
theorem dX5_table_51 : decode cX5_table 51 = .ok (.ldc 90, 2) := by decide +kernel
theorem dX5_table_53 : decode cX5_table 53 = .ok (.invokespecial 74, 3) := by decide +kernel
theorem dX5_table_56 : decode cX5_table 56 = .ok (.athrow, 1) := by decide +kernel
theorem dX5_table_57 : decode cX5_table 57 = .ok (.aload_n 0, 1) := by decide +kernel
theorem dX5_table_58 : decode cX5_table 58 = .ok (.getfield 10, 3) := by decide +kernel
theorem dX5_table_61 : decode cX5_table 61 = .ok (.iload_n 1, 1) := by decide +kernel
theorem dX5_table_62 : decode cX5_table 62 = .ok (.putfield 92, 3) := by decide +kernel
theorem dX5_table_65 : decode cX5_table 65 = .ok (.aload_n 0, 1) := by decide +kernel
theorem dX5_table_66 : decode cX5_table 66 = .ok (.getfield 10, 3) := by decide +kernel
theorem dX5_table_69 : decode cX5_table 69 = .ok (.iload_n 2, 1) := by decide +kernel
theorem dX5_table_70 : decode cX5_table 70 = .ok (.putfield 95, 3) := by decide +kernel
theorem dX5_table_73 : decode cX5_table 73 = .ok (.aload_n 0, 1) := by decide +kernel
theorem dX5_table_74 : decode cX5_table 74 = .ok (.getfield 10, 3) := by decide +kernel
theorem dX5_table_77 : decode cX5_table 77 = .ok (.iload_n 3, 1) := by decide +kernel
theorem dX5_table_78 : decode cX5_table 78 = .ok (.putfield 98, 3) := by decide +kernel
theorem dX5_table_81 : decode cX5_table 81 = .ok (.aload_n 0, 1) := by decide +kernel
theorem dX5_table_82 : decode cX5_table 82 = .ok (.getfield 10, 3) := by decide +kernel
theorem dX5_table_85 : decode cX5_table 85 = .ok (.iload 4, 2) := by decide +kernel
theorem dX5_table_87 : decode cX5_table 87 = .ok (.putfield 101, 3) := by decide +kernel
theorem dX5_table_90 : decode cX5_table 90 = .ok (.return_, 1) := by decide +kernel
theorem dX5_stock_0 : decode cX5_stock 0 = .ok (.iload_n 1, 1) := by decide +kernel
theorem dX5_stock_1 : decode cX5_stock 1 = .ok (.iconst 0, 1) := by decide +kernel
theorem dX5_stock_2 : decode cX5_stock 2 = .ok (.bipush 8, 2) := by decide +kernel
theorem dX5_stock_4 : decode cX5_stock 4 = .ok (.invokestatic 66, 3) := by decide +kernel
theorem dX5_stock_7 : decode cX5_stock 7 = .ok (.ifCond .eq 12, 3) := by decide +kernel
theorem dX5_stock_10 : decode cX5_stock 10 = .ok (.iload_n 2, 1) := by decide +kernel
theorem dX5_stock_11 : decode cX5_stock 11 = .ok (.iconst 0, 1) := by decide +kernel
theorem dX5_stock_12 : decode cX5_stock 12 = .ok (.iconst 2, 1) := by decide +kernel
theorem dX5_stock_13 : decode cX5_stock 13 = .ok (.invokestatic 66, 3) := by decide +kernel
theorem dX5_stock_16 : decode cX5_stock 16 = .ok (.ifCond .ne 13, 3) := by decide +kernel
theorem dX5_stock_19 : decode cX5_stock 19 = .ok (.new 70, 3) := by decide +kernel
theorem dX5_stock_22 : decode cX5_stock 22 = .ok (.dup, 1) := by decide +kernel
theorem dX5_stock_23 : decode cX5_stock 23 = .ok (.ldc 104, 2) := by decide +kernel
theorem dX5_stock_25 : decode cX5_stock 25 = .ok (.invokespecial 74, 3) := by decide +kernel
theorem dX5_stock_28 : decode cX5_stock 28 = .ok (.athrow, 1) := by decide +kernel
theorem dX5_stock_29 : decode cX5_stock 29 = .ok (.iload_n 1, 1) := by decide +kernel
theorem dX5_stock_30 : decode cX5_stock 30 = .ok (.aload_n 0, 1) := by decide +kernel
theorem dX5_stock_31 : decode cX5_stock 31 = .ok (.getfield 10, 3) := by decide +kernel
theorem dX5_stock_34 : decode cX5_stock 34 = .ok (.invokevirtual 106, 3) := by decide +kernel
theorem dX5_stock_37 : decode cX5_stock 37 = .ok (.if_icmp .lt 13, 3) := by decide +kernel
theorem dX5_stock_40 : decode cX5_stock 40 = .ok (.new 70, 3) := by decide +kernel
theorem dX5_stock_43 : decode cX5_stock 43 = .ok (.dup, 1) := by decide +kernel
theorem dX5_stock_44 : decode cX5_stock 44 = .ok (.ldc 110, 2) := by decide +kernel
theorem dX5_stock_46 : decode cX5_stock 46 = .ok (.invokespecial 74, 3) := by decide +kernel
theorem dX5_stock_49 : decode cX5_stock 49 = .ok (.athrow, 1) := by decide +kernel
theorem dX5_stock_50 : decode cX5_stock 50 = .ok (.aload_n 0, 1) := by decide +kernel
theorem dX5_stock_51 : decode cX5_stock 51 = .ok (.getfield 10, 3) := by decide +kernel
theorem dX5_stock_54 : decode cX5_stock 54 = .ok (.iload_n 1, 1) := by decide +kernel
theorem dX5_stock_55 : decode cX5_stock 55 = .ok (.putfield 77, 3) := by decide +kernel
theorem dX5_stock_58 : decode cX5_stock 58 = .ok (.aload_n 0, 1) := by decide +kernel
theorem dX5_stock_59 : decode cX5_stock 59 = .ok (.getfield 10, 3) := by decide +kernel
theorem dX5_stock_62 : decode cX5_stock 62 = .ok (.iload_n 2, 1) := by decide +kernel
theorem dX5_stock_63 : decode cX5_stock 63 = .ok (.putfield 112, 3) := by decide +kernel
theorem dX5_stock_66 : decode cX5_stock 66 = .ok (.aload_n 0, 1) := by decide +kernel
theorem dX5_stock_67 : decode cX5_stock 67 = .ok (.getfield 10, 3) := by decide +kernel
theorem dX5_stock_70 : decode cX5_stock 70 = .ok (.iload_n 3, 1) := by decide +kernel
theorem dX5_stock_71 : decode cX5_stock 71 = .ok (.putfield 115, 3) := by decide +kernel
theorem dX5_stock_74 : decode cX5_stock 74 = .ok (.return_, 1) := by decide +kernel
theorem dX5_deal_0 : decode cX5_deal 0 = .ok (.iload_n 1, 1) := by decide +kernel
theorem dX5_deal_1 : decode cX5_deal 1 = .ok (.iconst 0, 1) := by decide +kernel
theorem dX5_deal_2 : decode cX5_deal 2 = .ok (.iconst 1, 1) := by decide +kernel
theorem dX5_deal_3 : decode cX5_deal 3 = .ok (.invokestatic 66, 3) := by decide +kernel
theorem dX5_deal_6 : decode cX5_deal 6 = .ok (.ifCond .eq 13, 3) := by decide +kernel
theorem dX5_deal_9 : decode cX5_deal 9 = .ok (.iload_n 2, 1) := by decide +kernel
theorem dX5_deal_10 : decode cX5_deal 10 = .ok (.iconst 0, 1) := by decide +kernel
theorem dX5_deal_11 : decode cX5_deal 11 = .ok (.ldc 119, 2) := by decide +kernel
theorem dX5_deal_13 : decode cX5_deal 13 = .ok (.invokestatic 66, 3) := by decide +kernel
theorem dX5_deal_16 : decode cX5_deal 16 = .ok (.ifCond .ne 13, 3) := by decide +kernel
theorem dX5_deal_19 : decode cX5_deal 19 = .ok (.new 70, 3) := by decide +kernel
theorem dX5_deal_22 : decode cX5_deal 22 = .ok (.dup, 1) := by decide +kernel
theorem dX5_deal_23 : decode cX5_deal 23 = .ok (.ldc 120, 2) := by decide +kernel
theorem dX5_deal_25 : decode cX5_deal 25 = .ok (.invokespecial 74, 3) := by decide +kernel
theorem dX5_deal_28 : decode cX5_deal 28 = .ok (.athrow, 1) := by decide +kernel
theorem dX5_deal_29 : decode cX5_deal 29 = .ok (.aload_n 0, 1) := by decide +kernel
theorem dX5_deal_30 : decode cX5_deal 30 = .ok (.dup, 1) := by decide +kernel
theorem dX5_deal_31 : decode cX5_deal 31 = .ok (.getfield 59, 3) := by decide +kernel
theorem dX5_deal_34 : decode cX5_deal 34 = .ok (.aload_n 0, 1) := by decide +kernel
theorem dX5_deal_35 : decode cX5_deal 35 = .ok (.invokevirtual 122, 3) := by decide +kernel
theorem dX5_deal_38 : decode cX5_deal 38 = .ok (.iadd, 1) := by decide +kernel
theorem dX5_deal_39 : decode cX5_deal 39 = .ok (.putfield 59, 3) := by decide +kernel
theorem dX5_deal_42 : decode cX5_deal 42 = .ok (.aload_n 0, 1) := by decide +kernel
theorem dX5_deal_43 : decode cX5_deal 43 = .ok (.getfield 16, 3) := by decide +kernel
theorem dX5_deal_46 : decode cX5_deal 46 = .ok (.aload_n 0, 1) := by decide +kernel
theorem dX5_deal_47 : decode cX5_deal 47 = .ok (.getfield 10, 3) := by decide +kernel
theorem dX5_deal_50 : decode cX5_deal 50 = .ok (.invokevirtual 125, 3) := by decide +kernel
theorem dX5_deal_53 : decode cX5_deal 53 = .ok (.aload_n 0, 1) := by decide +kernel
theorem dX5_deal_54 : decode cX5_deal 54 = .ok (.iload_n 1, 1) := by decide +kernel
theorem dX5_deal_55 : decode cX5_deal 55 = .ok (.iload_n 2, 1) := by decide +kernel
theorem dX5_deal_56 : decode cX5_deal 56 = .ok (.invokevirtual 62, 3) := by decide +kernel
theorem dX5_deal_59 : decode cX5_deal 59 = .ok (.aload_n 0, 1) := by decide +kernel
theorem dX5_deal_60 : decode cX5_deal 60 = .ok (.getfield 16, 3) := by decide +kernel
theorem dX5_deal_63 : decode cX5_deal 63 = .ok (.invokevirtual 129, 3) := by decide +kernel
theorem dX5_deal_66 : decode cX5_deal 66 = .ok (.ireturn, 1) := by decide +kernel
theorem dX5_numberOf_0 : decode cX5_numberOf 0 = .ok (.iload_n 1, 1) := by decide +kernel
theorem dX5_numberOf_1 : decode cX5_numberOf 1 = .ok (.iconst 0, 1) := by decide +kernel
theorem dX5_numberOf_2 : decode cX5_numberOf 2 = .ok (.iconst 1, 1) := by decide +kernel
theorem dX5_numberOf_3 : decode cX5_numberOf 3 = .ok (.invokestatic 66, 3) := by decide +kernel
theorem dX5_numberOf_6 : decode cX5_numberOf 6 = .ok (.ifCond .ne 13, 3) := by decide +kernel
theorem dX5_numberOf_9 : decode cX5_numberOf 9 = .ok (.new 70, 3) := by decide +kernel
theorem dX5_numberOf_12 : decode cX5_numberOf 12 = .ok (.dup, 1) := by decide +kernel
theorem dX5_numberOf_13 : decode cX5_numberOf 13 = .ok (.ldc 132, 2) := by decide +kernel
theorem dX5_numberOf_15 : decode cX5_numberOf 15 = .ok (.invokespecial 74, 3) := by decide +kernel
theorem dX5_numberOf_18 : decode cX5_numberOf 18 = .ok (.athrow, 1) := by decide +kernel
theorem dX5_numberOf_19 : decode cX5_numberOf 19 = .ok (.iconst 0, 1) := by decide +kernel
theorem dX5_numberOf_20 : decode cX5_numberOf 20 = .ok (.istore_n 2, 1) := by decide +kernel
theorem dX5_numberOf_21 : decode cX5_numberOf 21 = .ok (.iload_n 2, 1) := by decide +kernel
theorem dX5_numberOf_22 : decode cX5_numberOf 22 = .ok (.sipush 500, 3) := by decide +kernel
theorem dX5_numberOf_25 : decode cX5_numberOf 25 = .ok (.if_icmp .gt 48, 3) := by decide +kernel
theorem dX5_numberOf_28 : decode cX5_numberOf 28 = .ok (.aload_n 0, 1) := by decide +kernel
theorem dX5_numberOf_29 : decode cX5_numberOf 29 = .ok (.getfield 49, 3) := by decide +kernel
theorem dX5_numberOf_32 : decode cX5_numberOf 32 = .ok (.iload_n 1, 1) := by decide +kernel
theorem dX5_numberOf_33 : decode cX5_numberOf 33 = .ok (.iload_n 2, 1) := by decide +kernel
theorem dX5_numberOf_34 : decode cX5_numberOf 34 = .ok (.aload_n 0, 1) := by decide +kernel
theorem dX5_numberOf_35 : decode cX5_numberOf 35 = .ok (.getfield 16, 3) := by decide +kernel
theorem dX5_numberOf_38 : decode cX5_numberOf 38 = .ok (.invokevirtual 106, 3) := by decide +kernel
theorem dX5_numberOf_41 : decode cX5_numberOf 41 = .ok (.invokevirtual 134, 3) := by decide +kernel
theorem dX5_numberOf_44 : decode cX5_numberOf 44 = .ok (.aload_n 0, 1) := by decide +kernel
theorem dX5_numberOf_45 : decode cX5_numberOf 45 = .ok (.getfield 49, 3) := by decide +kernel
theorem dX5_numberOf_48 : decode cX5_numberOf 48 = .ok (.aload_n 0, 1) := by decide +kernel
theorem dX5_numberOf_49 : decode cX5_numberOf 49 = .ok (.getfield 45, 3) := by decide +kernel
theorem dX5_numberOf_52 : decode cX5_numberOf 52 = .ok (.aload_n 0, 1) := by decide +kernel
theorem dX5_numberOf_53 : decode cX5_numberOf 53 = .ok (.getfield 16, 3) := by decide +kernel
theorem dX5_numberOf_56 : decode cX5_numberOf 56 = .ok (.invokevirtual 106, 3) := by decide +kernel
theorem dX5_numberOf_59 : decode cX5_numberOf 59 = .ok (.invokevirtual 138, 3) := by decide +kernel
theorem dX5_numberOf_62 : decode cX5_numberOf 62 = .ok (.ifCond .eq 5, 3) := by decide +kernel
theorem dX5_numberOf_65 : decode cX5_numberOf 65 = .ok (.iload_n 2, 1) := by decide +kernel
theorem dX5_numberOf_66 : decode cX5_numberOf 66 = .ok (.ireturn, 1) := by decide +kernel
theorem dX5_numberOf_67 : decode cX5_numberOf 67 = .ok (.iinc 2 1, 3) := by decide +kernel
theorem dX5_numberOf_70 : decode cX5_numberOf 70 = .ok (.goto (-49), 3) := by decide +kernel
theorem dX5_numberOf_73 : decode cX5_numberOf 73 = .ok (.iconst (-1), 1) := by decide +kernel
theorem dX5_numberOf_74 : decode cX5_numberOf 74 = .ok (.ireturn, 1) := by decide +kernel
theorem dX5_move_0 : decode cX5_move 0 = .ok (.iload_n 1, 1) := by decide +kernel
theorem dX5_move_1 : decode cX5_move 1 = .ok (.iconst 0, 1) := by decide +kernel
theorem dX5_move_2 : decode cX5_move 2 = .ok (.bipush 9, 2) := by decide +kernel
theorem dX5_move_4 : decode cX5_move 4 = .ok (.invokestatic 66, 3) := by decide +kernel
theorem dX5_move_7 : decode cX5_move 7 = .ok (.ifCond .eq 24, 3) := by decide +kernel
theorem dX5_move_10 : decode cX5_move 10 = .ok (.iload_n 1, 1) := by decide +kernel
theorem dX5_move_11 : decode cX5_move 11 = .ok (.bipush 8, 2) := by decide +kernel
theorem dX5_move_13 : decode cX5_move 13 = .ok (.if_icmp .eq 18, 3) := by decide +kernel
theorem dX5_move_16 : decode cX5_move 16 = .ok (.iload_n 2, 1) := by decide +kernel
theorem dX5_move_17 : decode cX5_move 17 = .ok (.iconst 0, 1) := by decide +kernel
theorem dX5_move_18 : decode cX5_move 18 = .ok (.bipush 8, 2) := by decide +kernel
theorem dX5_move_20 : decode cX5_move 20 = .ok (.invokestatic 66, 3) := by decide +kernel
theorem dX5_move_23 : decode cX5_move 23 = .ok (.ifCond .eq 8, 3) := by decide +kernel
theorem dX5_move_26 : decode cX5_move 26 = .ok (.iload_n 1, 1) := by decide +kernel
theorem dX5_move_27 : decode cX5_move 27 = .ok (.iload_n 2, 1) := by decide +kernel
theorem dX5_move_28 : decode cX5_move 28 = .ok (.if_icmp .ne 13, 3) := by decide +kernel
theorem dX5_move_31 : decode cX5_move 31 = .ok (.new 70, 3) := by decide +kernel
theorem dX5_move_34 : decode cX5_move 34 = .ok (.dup, 1) := by decide +kernel
theorem dX5_move_35 : decode cX5_move 35 = .ok (.ldc 142, 2) := by decide +kernel
theorem dX5_move_37 : decode cX5_move 37 = .ok (.invokespecial 74, 3) := by decide +kernel
theorem dX5_move_40 : decode cX5_move 40 = .ok (.athrow, 1) := by decide +kernel
theorem dX5_move_41 : decode cX5_move 41 = .ok (.iload_n 3, 1) := by decide +kernel
theorem dX5_move_42 : decode cX5_move 42 = .ok (.iconst 1, 1) := by decide +kernel
theorem dX5_move_43 : decode cX5_move 43 = .ok (.iload_n 1, 1) := by decide +kernel
theorem dX5_move_44 : decode cX5_move 44 = .ok (.invokestatic 144, 3) := by decide +kernel
theorem dX5_move_47 : decode cX5_move 47 = .ok (.ifCond .eq 15, 3) := by decide +kernel
theorem dX5_move_50 : decode cX5_move 50 = .ok (.iload_n 2, 1) := by decide +kernel
theorem dX5_move_51 : decode cX5_move 51 = .ok (.invokestatic 144, 3) := by decide +kernel
theorem dX5_move_54 : decode cX5_move 54 = .ok (.ifCond .eq 8, 3) := by decide +kernel
theorem dX5_move_57 : decode cX5_move 57 = .ok (.bipush 16, 2) := by decide +kernel
theorem dX5_move_59 : decode cX5_move 59 = .ok (.goto 4, 3) := by decide +kernel
theorem dX5_move_62 : decode cX5_move 62 = .ok (.iconst 1, 1) := by decide +kernel
theorem dX5_move_63 : decode cX5_move 63 = .ok (.invokestatic 66, 3) := by decide +kernel
theorem dX5_move_66 : decode cX5_move 66 = .ok (.ifCond .ne 13, 3) := by decide +kernel
theorem dX5_move_69 : decode cX5_move 69 = .ok (.new 70, 3) := by decide +kernel
theorem dX5_move_72 : decode cX5_move 72 = .ok (.dup, 1) := by decide +kernel
theorem dX5_move_73 : decode cX5_move 73 = .ok (.ldc 148, 2) := by decide +kernel
theorem dX5_move_75 : decode cX5_move 75 = .ok (.invokespecial 74, 3) := by decide +kernel
theorem dX5_move_78 : decode cX5_move 78 = .ok (.athrow, 1) := by decide +kernel
theorem dX5_move_79 : decode cX5_move 79 = .ok (.aload_n 0, 1) := by decide +kernel
theorem dX5_move_80 : decode cX5_move 80 = .ok (.getfield 52, 3) := by decide +kernel
theorem dX5_move_83 : decode cX5_move 83 = .ok (.sipush 200, 3) := by decide +kernel
theorem dX5_move_86 : decode cX5_move 86 = .ok (.if_icmp .ge 16, 3) := by decide +kernel
theorem dX5_move_89 : decode cX5_move 89 = .ok (.aload_n 0, 1) := by decide +kernel
theorem dX5_move_90 : decode cX5_move 90 = .ok (.getfield 22, 3) := by decide +kernel
theorem dX5_move_93 : decode cX5_move 93 = .ok (.iload_n 1, 1) := by decide +kernel
theorem dX5_move_94 : decode cX5_move 94 = .ok (.iload_n 2, 1) := by decide +kernel
theorem dX5_move_95 : decode cX5_move 95 = .ok (.iload_n 3, 1) := by decide +kernel
theorem dX5_move_96 : decode cX5_move 96 = .ok (.invokevirtual 150, 3) := by decide +kernel
theorem dX5_move_99 : decode cX5_move 99 = .ok (.ifCond .ne 13, 3) := by decide +kernel
theorem dX5_move_102 : decode cX5_move 102 = .ok (.new 153, 3) := by decide +kernel
theorem dX5_move_105 : decode cX5_move 105 = .ok (.dup, 1) := by decide +kernel
theorem dX5_move_106 : decode cX5_move 106 = .ok (.ldc 155, 2) := by decide +kernel
theorem dX5_move_108 : decode cX5_move 108 = .ok (.invokespecial 157, 3) := by decide +kernel
theorem dX5_move_111 : decode cX5_move 111 = .ok (.athrow, 1) := by decide +kernel
theorem dX5_move_112 : decode cX5_move 112 = .ok (.aload_n 0, 1) := by decide +kernel
theorem dX5_move_113 : decode cX5_move 113 = .ok (.iload_n 1, 1) := by decide +kernel
theorem dX5_move_114 : decode cX5_move 114 = .ok (.iload_n 2, 1) := by decide +kernel
theorem dX5_move_115 : decode cX5_move 115 = .ok (.iload_n 3, 1) := by decide +kernel
theorem dX5_move_116 : decode cX5_move 116 = .ok (.invokevirtual 158, 3) := by decide +kernel
theorem dX5_move_119 : decode cX5_move 119 = .ok (.aload_n 0, 1) := by decide +kernel
theorem dX5_move_120 : decode cX5_move 120 = .ok (.getfield 22, 3) := by decide +kernel
theorem dX5_move_123 : decode cX5_move 123 = .ok (.invokevirtual 161, 3) := by decide +kernel
theorem dX5_move_126 : decode cX5_move 126 = .ok (.ireturn, 1) := by decide +kernel
theorem dX5_undo_0 : decode cX5_undo 0 = .ok (.iload_n 1, 1) := by decide +kernel
theorem dX5_undo_1 : decode cX5_undo 1 = .ok (.iconst 1, 1) := by decide +kernel
theorem dX5_undo_2 : decode cX5_undo 2 = .ok (.sipush 200, 3) := by decide +kernel
theorem dX5_undo_5 : decode cX5_undo 5 = .ok (.invokestatic 66, 3) := by decide +kernel
theorem dX5_undo_8 : decode cX5_undo 8 = .ok (.ifCond .ne 13, 3) := by decide +kernel
theorem dX5_undo_11 : decode cX5_undo 11 = .ok (.new 70, 3) := by decide +kernel
theorem dX5_undo_14 : decode cX5_undo 14 = .ok (.dup, 1) := by decide +kernel
theorem dX5_undo_15 : decode cX5_undo 15 = .ok (.ldc 164, 2) := by decide +kernel
theorem dX5_undo_17 : decode cX5_undo 17 = .ok (.invokespecial 74, 3) := by decide +kernel
theorem dX5_undo_20 : decode cX5_undo 20 = .ok (.athrow, 1) := by decide +kernel
theorem dX5_undo_21 : decode cX5_undo 21 = .ok (.iload_n 1, 1) := by decide +kernel
theorem dX5_undo_22 : decode cX5_undo 22 = .ok (.aload_n 0, 1) := by decide +kernel
theorem dX5_undo_23 : decode cX5_undo 23 = .ok (.getfield 52, 3) := by decide +kernel
theorem dX5_undo_26 : decode cX5_undo 26 = .ok (.invokestatic 166, 3) := by decide +kernel
theorem dX5_undo_29 : decode cX5_undo 29 = .ok (.istore_n 2, 1) := by decide +kernel
theorem dX5_undo_30 : decode cX5_undo 30 = .ok (.iload_n 2, 1) := by decide +kernel
theorem dX5_undo_31 : decode cX5_undo 31 = .ok (.ifCond .le 38, 3) := by decide +kernel
theorem dX5_undo_34 : decode cX5_undo 34 = .ok (.aload_n 0, 1) := by decide +kernel
theorem dX5_undo_35 : decode cX5_undo 35 = .ok (.dup, 1) := by decide +kernel
theorem dX5_undo_36 : decode cX5_undo 36 = .ok (.getfield 52, 3) := by decide +kernel
theorem dX5_undo_39 : decode cX5_undo 39 = .ok (.iload_n 2, 1) := by decide +kernel
theorem dX5_undo_40 : decode cX5_undo 40 = .ok (.isub, 1) := by decide +kernel
theorem dX5_undo_41 : decode cX5_undo 41 = .ok (.putfield 52, 3) := by decide +kernel
theorem dX5_undo_44 : decode cX5_undo 44 = .ok (.aload_n 0, 1) := by decide +kernel
theorem dX5_undo_45 : decode cX5_undo 45 = .ok (.dup, 1) := by decide +kernel
theorem dX5_undo_46 : decode cX5_undo 46 = .ok (.getfield 56, 3) := by decide +kernel
theorem dX5_undo_49 : decode cX5_undo 49 = .ok (.iload_n 2, 1) := by decide +kernel
theorem dX5_undo_50 : decode cX5_undo 50 = .ok (.iadd, 1) := by decide +kernel
theorem dX5_undo_51 : decode cX5_undo 51 = .ok (.putfield 56, 3) := by decide +kernel
theorem dX5_undo_54 : decode cX5_undo 54 = .ok (.aload_n 0, 1) := by decide +kernel
theorem dX5_undo_55 : decode cX5_undo 55 = .ok (.getfield 31, 3) := by decide +kernel
theorem dX5_undo_58 : decode cX5_undo 58 = .ok (.aload_n 0, 1) := by decide +kernel
theorem dX5_undo_59 : decode cX5_undo 59 = .ok (.getfield 52, 3) := by decide +kernel
theorem dX5_undo_62 : decode cX5_undo 62 = .ok (.aload_n 0, 1) := by decide +kernel
theorem dX5_undo_63 : decode cX5_undo 63 = .ok (.getfield 22, 3) := by decide +kernel
theorem dX5_undo_66 : decode cX5_undo 66 = .ok (.invokevirtual 172, 3) := by decide +kernel
theorem dX5_undo_69 : decode cX5_undo 69 = .ok (.iload_n 2, 1) := by decide +kernel
theorem dX5_undo_70 : decode cX5_undo 70 = .ok (.ireturn, 1) := by decide +kernel
theorem dX5_safe_0 : decode cX5_safe 0 = .ok (.aload_n 0, 1) := by decide +kernel
theorem dX5_safe_1 : decode cX5_safe 1 = .ok (.getfield 52, 3) := by decide +kernel
theorem dX5_safe_4 : decode cX5_safe 4 = .ok (.istore_n 1, 1) := by decide +kernel
theorem dX5_safe_5 : decode cX5_safe 5 = .ok (.aload_n 0, 1) := by decide +kernel
theorem dX5_safe_6 : decode cX5_safe 6 = .ok (.getfield 22, 3) := by decide +kernel
theorem dX5_safe_9 : decode cX5_safe 9 = .ok (.invokevirtual 176, 3) := by decide +kernel
theorem dX5_safe_12 : decode cX5_safe 12 = .ok (.istore_n 2, 1) := by decide +kernel
theorem dX5_safe_13 : decode cX5_safe 13 = .ok (.sipush 200, 3) := by decide +kernel
theorem dX5_safe_16 : decode cX5_safe 16 = .ok (.iload_n 1, 1) := by decide +kernel
theorem dX5_safe_17 : decode cX5_safe 17 = .ok (.isub, 1) := by decide +kernel
theorem dX5_safe_18 : decode cX5_safe 18 = .ok (.istore_n 3, 1) := by decide +kernel
theorem dX5_safe_19 : decode cX5_safe 19 = .ok (.iload_n 3, 1) := by decide +kernel
theorem dX5_safe_20 : decode cX5_safe 20 = .ok (.ifCond .le 30, 3) := by decide +kernel
theorem dX5_safe_23 : decode cX5_safe 23 = .ok (.iload_n 2, 1) := by decide +kernel
theorem dX5_safe_24 : decode cX5_safe 24 = .ok (.iconst (-1), 1) := by decide +kernel
theorem dX5_safe_25 : decode cX5_safe 25 = .ok (.if_icmp .eq 25, 3) := by decide +kernel
theorem dX5_safe_28 : decode cX5_safe 28 = .ok (.aload_n 0, 1) := by decide +kernel
theorem dX5_safe_29 : decode cX5_safe 29 = .ok (.iload_n 2, 1) := by decide +kernel
theorem dX5_safe_30 : decode cX5_safe 30 = .ok (.bipush 8, 2) := by decide +kernel
theorem dX5_safe_32 : decode cX5_safe 32 = .ok (.iconst 1, 1) := by decide +kernel
theorem dX5_safe_33 : decode cX5_safe 33 = .ok (.invokevirtual 158, 3) := by decide +kernel
theorem dX5_safe_36 : decode cX5_safe 36 = .ok (.aload_n 0, 1) := by decide +kernel
theorem dX5_safe_37 : decode cX5_safe 37 = .ok (.getfield 22, 3) := by decide +kernel
theorem dX5_safe_40 : decode cX5_safe 40 = .ok (.invokevirtual 176, 3) := by decide +kernel
theorem dX5_safe_43 : decode cX5_safe 43 = .ok (.istore_n 2, 1) := by decide +kernel
theorem dX5_safe_44 : decode cX5_safe 44 = .ok (.iinc 3 (-1), 3) := by decide +kernel
theorem dX5_safe_47 : decode cX5_safe 47 = .ok (.goto (-28), 3) := by decide +kernel
theorem dX5_safe_50 : decode cX5_safe 50 = .ok (.aload_n 0, 1) := by decide +kernel
theorem dX5_safe_51 : decode cX5_safe 51 = .ok (.getfield 52, 3) := by decide +kernel
theorem dX5_safe_54 : decode cX5_safe 54 = .ok (.iload_n 1, 1) := by decide +kernel
theorem dX5_safe_55 : decode cX5_safe 55 = .ok (.isub, 1) := by decide +kernel
theorem dX5_safe_56 : decode cX5_safe 56 = .ok (.ireturn, 1) := by decide +kernel
theorem dX5_moves_0 : decode cX5_moves 0 = .ok (.aload_n 0, 1) := by decide +kernel
theorem dX5_moves_1 : decode cX5_moves 1 = .ok (.getfield 22, 3) := by decide +kernel
theorem dX5_moves_4 : decode cX5_moves 4 = .ok (.invokevirtual 179, 3) := by decide +kernel
theorem dX5_moves_7 : decode cX5_moves 7 = .ok (.aload_n 0, 1) := by decide +kernel
theorem dX5_moves_8 : decode cX5_moves 8 = .ok (.getfield 22, 3) := by decide +kernel
theorem dX5_moves_11 : decode cX5_moves 11 = .ok (.getfield 182, 3) := by decide +kernel
theorem dX5_moves_14 : decode cX5_moves 14 = .ok (.ireturn, 1) := by decide +kernel
theorem dX5_moveAt_0 : decode cX5_moveAt 0 = .ok (.iload_n 1, 1) := by decide +kernel
theorem dX5_moveAt_1 : decode cX5_moveAt 1 = .ok (.ifCond .ge 13, 3) := by decide +kernel
theorem dX5_moveAt_4 : decode cX5_moveAt 4 = .ok (.new 185, 3) := by decide +kernel
theorem dX5_moveAt_7 : decode cX5_moveAt 7 = .ok (.dup, 1) := by decide +kernel
theorem dX5_moveAt_8 : decode cX5_moveAt 8 = .ok (.ldc 187, 2) := by decide +kernel
theorem dX5_moveAt_10 : decode cX5_moveAt 10 = .ok (.invokespecial 189, 3) := by decide +kernel
theorem dX5_moveAt_13 : decode cX5_moveAt 13 = .ok (.athrow, 1) := by decide +kernel
theorem dX5_moveAt_14 : decode cX5_moveAt 14 = .ok (.aload_n 0, 1) := by decide +kernel
theorem dX5_moveAt_15 : decode cX5_moveAt 15 = .ok (.getfield 22, 3) := by decide +kernel
theorem dX5_moveAt_18 : decode cX5_moveAt 18 = .ok (.invokevirtual 179, 3) := by decide +kernel
theorem dX5_moveAt_21 : decode cX5_moveAt 21 = .ok (.aload_n 0, 1) := by decide +kernel
theorem dX5_moveAt_22 : decode cX5_moveAt 22 = .ok (.getfield 22, 3) := by decide +kernel
theorem dX5_moveAt_25 : decode cX5_moveAt 25 = .ok (.iload_n 1, 1) := by decide +kernel
theorem dX5_moveAt_26 : decode cX5_moveAt 26 = .ok (.invokevirtual 190, 3) := by decide +kernel
theorem dX5_moveAt_29 : decode cX5_moveAt 29 = .ok (.ireturn, 1) := by decide +kernel
theorem dX5_card_0 : decode cX5_card 0 = .ok (.iload_n 1, 1) := by decide +kernel
theorem dX5_card_1 : decode cX5_card 1 = .ok (.iconst 0, 1) := by decide +kernel
theorem dX5_card_2 : decode cX5_card 2 = .ok (.bipush 9, 2) := by decide +kernel
theorem dX5_card_4 : decode cX5_card 4 = .ok (.invokestatic 66, 3) := by decide +kernel
theorem dX5_card_7 : decode cX5_card 7 = .ok (.ifCond .eq 7, 3) := by decide +kernel
theorem dX5_card_10 : decode cX5_card 10 = .ok (.iload_n 2, 1) := by decide +kernel
theorem dX5_card_11 : decode cX5_card 11 = .ok (.ifCond .ge 13, 3) := by decide +kernel
theorem dX5_card_14 : decode cX5_card 14 = .ok (.new 70, 3) := by decide +kernel
theorem dX5_card_17 : decode cX5_card 17 = .ok (.dup, 1) := by decide +kernel
theorem dX5_card_18 : decode cX5_card 18 = .ok (.ldc 194, 2) := by decide +kernel
theorem dX5_card_20 : decode cX5_card 20 = .ok (.invokespecial 74, 3) := by decide +kernel
theorem dX5_card_23 : decode cX5_card 23 = .ok (.athrow, 1) := by decide +kernel
theorem dX5_card_24 : decode cX5_card 24 = .ok (.iload_n 1, 1) := by decide +kernel
theorem dX5_card_25 : decode cX5_card 25 = .ok (.bipush 8, 2) := by decide +kernel
theorem dX5_card_27 : decode cX5_card 27 = .ok (.if_icmp .ne 12, 3) := by decide +kernel
theorem dX5_card_30 : decode cX5_card 30 = .ok (.aload_n 0, 1) := by decide +kernel
theorem dX5_card_31 : decode cX5_card 31 = .ok (.getfield 22, 3) := by decide +kernel
theorem dX5_card_34 : decode cX5_card 34 = .ok (.iload_n 2, 1) := by decide +kernel
theorem dX5_card_35 : decode cX5_card 35 = .ok (.invokevirtual 196, 3) := by decide +kernel
theorem dX5_card_38 : decode cX5_card 38 = .ok (.ireturn, 1) := by decide +kernel
theorem dX5_card_39 : decode cX5_card 39 = .ok (.iload_n 1, 1) := by decide +kernel
theorem dX5_card_40 : decode cX5_card 40 = .ok (.invokestatic 144, 3) := by decide +kernel
theorem dX5_card_43 : decode cX5_card 43 = .ok (.ifCond .eq 13, 3) := by decide +kernel
theorem dX5_card_46 : decode cX5_card 46 = .ok (.aload_n 0, 1) := by decide +kernel
theorem dX5_card_47 : decode cX5_card 47 = .ok (.getfield 22, 3) := by decide +kernel
theorem dX5_card_50 : decode cX5_card 50 = .ok (.iload_n 1, 1) := by decide +kernel
theorem dX5_card_51 : decode cX5_card 51 = .ok (.iload_n 2, 1) := by decide +kernel
theorem dX5_card_52 : decode cX5_card 52 = .ok (.invokevirtual 199, 3) := by decide +kernel
theorem dX5_card_55 : decode cX5_card 55 = .ok (.ireturn, 1) := by decide +kernel
theorem dX5_card_56 : decode cX5_card 56 = .ok (.aload_n 0, 1) := by decide +kernel
theorem dX5_card_57 : decode cX5_card 57 = .ok (.getfield 22, 3) := by decide +kernel
theorem dX5_card_60 : decode cX5_card 60 = .ok (.iload_n 1, 1) := by decide +kernel
theorem dX5_card_61 : decode cX5_card 61 = .ok (.iload_n 2, 1) := by decide +kernel
theorem dX5_card_62 : decode cX5_card 62 = .ok (.invokevirtual 202, 3) := by decide +kernel
theorem dX5_card_65 : decode cX5_card 65 = .ok (.ireturn, 1) := by decide +kernel
theorem dX5_told_0 : decode cX5_told 0 = .ok (.iload_n 1, 1) := by decide +kernel
theorem dX5_told_1 : decode cX5_told 1 = .ok (.iconst 0, 1) := by decide +kernel
theorem dX5_told_2 : decode cX5_told 2 = .ok (.bipush 7, 2) := by decide +kernel
theorem dX5_told_4 : decode cX5_told 4 = .ok (.invokestatic 66, 3) := by decide +kernel
theorem dX5_told_7 : decode cX5_told 7 = .ok (.ifCond .ne 13, 3) := by decide +kernel
theorem dX5_told_10 : decode cX5_told 10 = .ok (.new 70, 3) := by decide +kernel
theorem dX5_told_13 : decode cX5_told 13 = .ok (.dup, 1) := by decide +kernel
theorem dX5_told_14 : decode cX5_told 14 = .ok (.ldc 205, 2) := by decide +kernel
theorem dX5_told_16 : decode cX5_told 16 = .ok (.invokespecial 74, 3) := by decide +kernel
theorem dX5_told_19 : decode cX5_told 19 = .ok (.athrow, 1) := by decide +kernel
theorem dX5_told_20 : decode cX5_told 20 = .ok (.iload_n 1, 1) := by decide +kernel
theorem dX5_told_21 : decode cX5_told 21 = .ok (.tableswitch 100 0 6 #[43, 51, 56, 61, 69, 74, 84], 43) := by decide +kernel
theorem dX5_told_64 : decode cX5_told 64 = .ok (.aload_n 0, 1) := by decide +kernel
theorem dX5_told_65 : decode cX5_told 65 = .ok (.getfield 22, 3) := by decide +kernel
theorem dX5_told_68 : decode cX5_told 68 = .ok (.invokevirtual 161, 3) := by decide +kernel
theorem dX5_told_71 : decode cX5_told 71 = .ok (.ireturn, 1) := by decide +kernel
theorem dX5_told_72 : decode cX5_told 72 = .ok (.aload_n 0, 1) := by decide +kernel
theorem dX5_told_73 : decode cX5_told 73 = .ok (.getfield 52, 3) := by decide +kernel
theorem dX5_told_76 : decode cX5_told 76 = .ok (.ireturn, 1) := by decide +kernel
theorem dX5_told_77 : decode cX5_told 77 = .ok (.aload_n 0, 1) := by decide +kernel
theorem dX5_told_78 : decode cX5_told 78 = .ok (.getfield 56, 3) := by decide +kernel
theorem dX5_told_81 : decode cX5_told 81 = .ok (.ireturn, 1) := by decide +kernel
theorem dX5_told_82 : decode cX5_told 82 = .ok (.aload_n 0, 1) := by decide +kernel
theorem dX5_told_83 : decode cX5_told 83 = .ok (.getfield 22, 3) := by decide +kernel
theorem dX5_told_86 : decode cX5_told 86 = .ok (.getfield 207, 3) := by decide +kernel
theorem dX5_told_89 : decode cX5_told 89 = .ok (.ireturn, 1) := by decide +kernel
theorem dX5_told_90 : decode cX5_told 90 = .ok (.aload_n 0, 1) := by decide +kernel
theorem dX5_told_91 : decode cX5_told 91 = .ok (.invokevirtual 122, 3) := by decide +kernel
theorem dX5_told_94 : decode cX5_told 94 = .ok (.ireturn, 1) := by decide +kernel
theorem dX5_told_95 : decode cX5_told 95 = .ok (.aload_n 0, 1) := by decide +kernel
theorem dX5_told_96 : decode cX5_told 96 = .ok (.getfield 59, 3) := by decide +kernel
theorem dX5_told_99 : decode cX5_told 99 = .ok (.aload_n 0, 1) := by decide +kernel
theorem dX5_told_100 : decode cX5_told 100 = .ok (.invokevirtual 122, 3) := by decide +kernel
theorem dX5_told_103 : decode cX5_told 103 = .ok (.iadd, 1) := by decide +kernel
theorem dX5_told_104 : decode cX5_told 104 = .ok (.ireturn, 1) := by decide +kernel
theorem dX5_told_105 : decode cX5_told 105 = .ok (.aload_n 0, 1) := by decide +kernel
theorem dX5_told_106 : decode cX5_told 106 = .ok (.getfield 22, 3) := by decide +kernel
theorem dX5_told_109 : decode cX5_told 109 = .ok (.invokevirtual 210, 3) := by decide +kernel
theorem dX5_told_112 : decode cX5_told 112 = .ok (.ifCond .eq 7, 3) := by decide +kernel
theorem dX5_told_115 : decode cX5_told 115 = .ok (.iconst 1, 1) := by decide +kernel
theorem dX5_told_116 : decode cX5_told 116 = .ok (.goto 4, 3) := by decide +kernel
theorem dX5_told_119 : decode cX5_told 119 = .ok (.iconst 0, 1) := by decide +kernel
theorem dX5_told_120 : decode cX5_told 120 = .ok (.ireturn, 1) := by decide +kernel
theorem dX5_told_121 : decode cX5_told 121 = .ok (.aload_n 0, 1) := by decide +kernel
theorem dX5_told_122 : decode cX5_told 122 = .ok (.getfield 22, 3) := by decide +kernel
theorem dX5_told_125 : decode cX5_told 125 = .ok (.getfield 214, 3) := by decide +kernel
theorem dX5_told_128 : decode cX5_told 128 = .ok (.invokestatic 217, 3) := by decide +kernel
theorem dX5_told_131 : decode cX5_told 131 = .ok (.ireturn, 1) := by decide +kernel
theorem dX5_search_0 : decode cX5_search 0 = .ok (.iload_n 1, 1) := by decide +kernel
theorem dX5_search_1 : decode cX5_search 1 = .ok (.iconst 1, 1) := by decide +kernel
theorem dX5_search_2 : decode cX5_search 2 = .ok (.sipush 400, 3) := by decide +kernel
theorem dX5_search_5 : decode cX5_search 5 = .ok (.invokestatic 66, 3) := by decide +kernel
theorem dX5_search_8 : decode cX5_search 8 = .ok (.ifCond .ne 13, 3) := by decide +kernel
theorem dX5_search_11 : decode cX5_search 11 = .ok (.new 70, 3) := by decide +kernel
theorem dX5_search_14 : decode cX5_search 14 = .ok (.dup, 1) := by decide +kernel
theorem dX5_search_15 : decode cX5_search 15 = .ok (.ldc 222, 2) := by decide +kernel
theorem dX5_search_17 : decode cX5_search 17 = .ok (.invokespecial 74, 3) := by decide +kernel
theorem dX5_search_20 : decode cX5_search 20 = .ok (.athrow, 1) := by decide +kernel
theorem dX5_search_21 : decode cX5_search 21 = .ok (.aload_n 0, 1) := by decide +kernel
theorem dX5_search_22 : decode cX5_search 22 = .ok (.getfield 38, 3) := by decide +kernel
theorem dX5_search_25 : decode cX5_search 25 = .ok (.getfield 224, 3) := by decide +kernel
theorem dX5_search_28 : decode cX5_search 28 = .ok (.aload_n 0, 1) := by decide +kernel
theorem dX5_search_29 : decode cX5_search 29 = .ok (.getfield 22, 3) := by decide +kernel
theorem dX5_search_32 : decode cX5_search 32 = .ok (.invokevirtual 227, 3) := by decide +kernel
theorem dX5_search_35 : decode cX5_search 35 = .ok (.aload_n 0, 1) := by decide +kernel
theorem dX5_search_36 : decode cX5_search 36 = .ok (.getfield 38, 3) := by decide +kernel
theorem dX5_search_39 : decode cX5_search 39 = .ok (.iload_n 1, 1) := by decide +kernel
theorem dX5_search_40 : decode cX5_search 40 = .ok (.invokevirtual 230, 3) := by decide +kernel
theorem dX5_search_43 : decode cX5_search 43 = .ok (.ireturn, 1) := by decide +kernel
theorem dX5_known_0 : decode cX5_known 0 = .ok (.iload_n 1, 1) := by decide +kernel
theorem dX5_known_1 : decode cX5_known 1 = .ok (.iconst 1, 1) := by decide +kernel
theorem dX5_known_2 : decode cX5_known 2 = .ok (.sipush 400, 3) := by decide +kernel
theorem dX5_known_5 : decode cX5_known 5 = .ok (.invokestatic 66, 3) := by decide +kernel
theorem dX5_known_8 : decode cX5_known 8 = .ok (.ifCond .ne 13, 3) := by decide +kernel
theorem dX5_known_11 : decode cX5_known 11 = .ok (.new 70, 3) := by decide +kernel
theorem dX5_known_14 : decode cX5_known 14 = .ok (.dup, 1) := by decide +kernel
theorem dX5_known_15 : decode cX5_known 15 = .ok (.ldc 222, 2) := by decide +kernel
theorem dX5_known_17 : decode cX5_known 17 = .ok (.invokespecial 74, 3) := by decide +kernel
theorem dX5_known_20 : decode cX5_known 20 = .ok (.athrow, 1) := by decide +kernel
theorem dX5_known_21 : decode cX5_known 21 = .ok (.aload_n 0, 1) := by decide +kernel
theorem dX5_known_22 : decode cX5_known 22 = .ok (.getfield 38, 3) := by decide +kernel
theorem dX5_known_25 : decode cX5_known 25 = .ok (.getfield 224, 3) := by decide +kernel
theorem dX5_known_28 : decode cX5_known 28 = .ok (.aload_n 0, 1) := by decide +kernel
theorem dX5_known_29 : decode cX5_known 29 = .ok (.getfield 22, 3) := by decide +kernel
theorem dX5_known_32 : decode cX5_known 32 = .ok (.invokevirtual 227, 3) := by decide +kernel
theorem dX5_known_35 : decode cX5_known 35 = .ok (.aload_n 0, 1) := by decide +kernel
theorem dX5_known_36 : decode cX5_known 36 = .ok (.getfield 38, 3) := by decide +kernel
theorem dX5_known_39 : decode cX5_known 39 = .ok (.iload_n 1, 1) := by decide +kernel
theorem dX5_known_40 : decode cX5_known 40 = .ok (.invokevirtual 230, 3) := by decide +kernel
theorem dX5_known_43 : decode cX5_known 43 = .ok (.pop, 1) := by decide +kernel
theorem dX5_known_44 : decode cX5_known 44 = .ok (.aload_n 0, 1) := by decide +kernel
theorem dX5_known_45 : decode cX5_known 45 = .ok (.getfield 38, 3) := by decide +kernel
theorem dX5_known_48 : decode cX5_known 48 = .ok (.getfield 233, 3) := by decide +kernel
theorem dX5_known_51 : decode cX5_known 51 = .ok (.ireturn, 1) := by decide +kernel
theorem dX5_hint_0 : decode cX5_hint 0 = .ok (.aload_n 0, 1) := by decide +kernel
theorem dX5_hint_1 : decode cX5_hint 1 = .ok (.getfield 38, 3) := by decide +kernel
theorem dX5_hint_4 : decode cX5_hint 4 = .ok (.getfield 224, 3) := by decide +kernel
theorem dX5_hint_7 : decode cX5_hint 7 = .ok (.aload_n 0, 1) := by decide +kernel
theorem dX5_hint_8 : decode cX5_hint 8 = .ok (.getfield 22, 3) := by decide +kernel
theorem dX5_hint_11 : decode cX5_hint 11 = .ok (.invokevirtual 227, 3) := by decide +kernel
theorem dX5_hint_14 : decode cX5_hint 14 = .ok (.aload_n 0, 1) := by decide +kernel
theorem dX5_hint_15 : decode cX5_hint 15 = .ok (.getfield 38, 3) := by decide +kernel
theorem dX5_hint_18 : decode cX5_hint 18 = .ok (.bipush 100, 2) := by decide +kernel
theorem dX5_hint_20 : decode cX5_hint 20 = .ok (.invokevirtual 230, 3) := by decide +kernel
theorem dX5_hint_23 : decode cX5_hint 23 = .ok (.istore_n 1, 1) := by decide +kernel
theorem dX5_hint_24 : decode cX5_hint 24 = .ok (.iload_n 1, 1) := by decide +kernel
theorem dX5_hint_25 : decode cX5_hint 25 = .ok (.iconst 1, 1) := by decide +kernel
theorem dX5_hint_26 : decode cX5_hint 26 = .ok (.if_icmp .ge 5, 3) := by decide +kernel
theorem dX5_hint_29 : decode cX5_hint 29 = .ok (.iconst (-1), 1) := by decide +kernel
theorem dX5_hint_30 : decode cX5_hint 30 = .ok (.ireturn, 1) := by decide +kernel
theorem dX5_hint_31 : decode cX5_hint 31 = .ok (.aload_n 0, 1) := by decide +kernel
theorem dX5_hint_32 : decode cX5_hint 32 = .ok (.getfield 22, 3) := by decide +kernel
theorem dX5_hint_35 : decode cX5_hint 35 = .ok (.invokevirtual 179, 3) := by decide +kernel
theorem dX5_hint_38 : decode cX5_hint 38 = .ok (.iconst 0, 1) := by decide +kernel
theorem dX5_hint_39 : decode cX5_hint 39 = .ok (.istore_n 2, 1) := by decide +kernel
theorem dX5_hint_40 : decode cX5_hint 40 = .ok (.iload_n 2, 1) := by decide +kernel
theorem dX5_hint_41 : decode cX5_hint 41 = .ok (.aload_n 0, 1) := by decide +kernel
theorem dX5_hint_42 : decode cX5_hint 42 = .ok (.getfield 22, 3) := by decide +kernel
theorem dX5_hint_45 : decode cX5_hint 45 = .ok (.getfield 182, 3) := by decide +kernel
theorem dX5_hint_48 : decode cX5_hint 48 = .ok (.if_icmp .ge 60, 3) := by decide +kernel
theorem dX5_hint_51 : decode cX5_hint 51 = .ok (.aload_n 0, 1) := by decide +kernel
theorem dX5_hint_52 : decode cX5_hint 52 = .ok (.getfield 22, 3) := by decide +kernel
theorem dX5_hint_55 : decode cX5_hint 55 = .ok (.iload_n 2, 1) := by decide +kernel
theorem dX5_hint_56 : decode cX5_hint 56 = .ok (.invokevirtual 190, 3) := by decide +kernel
theorem dX5_hint_59 : decode cX5_hint 59 = .ok (.istore_n 3, 1) := by decide +kernel
theorem dX5_hint_60 : decode cX5_hint 60 = .ok (.aload_n 0, 1) := by decide +kernel
theorem dX5_hint_61 : decode cX5_hint 61 = .ok (.getfield 38, 3) := by decide +kernel
theorem dX5_hint_64 : decode cX5_hint 64 = .ok (.getfield 224, 3) := by decide +kernel
theorem dX5_hint_67 : decode cX5_hint 67 = .ok (.aload_n 0, 1) := by decide +kernel
theorem dX5_hint_68 : decode cX5_hint 68 = .ok (.getfield 22, 3) := by decide +kernel
theorem dX5_hint_71 : decode cX5_hint 71 = .ok (.invokevirtual 227, 3) := by decide +kernel
theorem dX5_hint_74 : decode cX5_hint 74 = .ok (.aload_n 0, 1) := by decide +kernel
theorem dX5_hint_75 : decode cX5_hint 75 = .ok (.getfield 38, 3) := by decide +kernel
theorem dX5_hint_78 : decode cX5_hint 78 = .ok (.getfield 224, 3) := by decide +kernel
theorem dX5_hint_81 : decode cX5_hint 81 = .ok (.iload_n 3, 1) := by decide +kernel
theorem dX5_hint_82 : decode cX5_hint 82 = .ok (.invokevirtual 236, 3) := by decide +kernel
theorem dX5_hint_85 : decode cX5_hint 85 = .ok (.aload_n 0, 1) := by decide +kernel
theorem dX5_hint_86 : decode cX5_hint 86 = .ok (.getfield 38, 3) := by decide +kernel
theorem dX5_hint_89 : decode cX5_hint 89 = .ok (.bipush 100, 2) := by decide +kernel
theorem dX5_hint_91 : decode cX5_hint 91 = .ok (.invokevirtual 230, 3) := by decide +kernel
theorem dX5_hint_94 : decode cX5_hint 94 = .ok (.iload_n 1, 1) := by decide +kernel
theorem dX5_hint_95 : decode cX5_hint 95 = .ok (.iconst 1, 1) := by decide +kernel
theorem dX5_hint_96 : decode cX5_hint 96 = .ok (.isub, 1) := by decide +kernel
theorem dX5_hint_97 : decode cX5_hint 97 = .ok (.if_icmp .ne 5, 3) := by decide +kernel
theorem dX5_hint_100 : decode cX5_hint 100 = .ok (.iload_n 3, 1) := by decide +kernel
theorem dX5_hint_101 : decode cX5_hint 101 = .ok (.ireturn, 1) := by decide +kernel
theorem dX5_hint_102 : decode cX5_hint 102 = .ok (.iinc 2 1, 3) := by decide +kernel
theorem dX5_hint_105 : decode cX5_hint 105 = .ok (.goto (-65), 3) := by decide +kernel
theorem dX5_hint_108 : decode cX5_hint 108 = .ok (.iconst (-1), 1) := by decide +kernel
theorem dX5_hint_109 : decode cX5_hint 109 = .ok (.ireturn, 1) := by decide +kernel
theorem dX5_odds_0 : decode cX5_odds 0 = .ok (.iload_n 1, 1) := by decide +kernel
theorem dX5_odds_1 : decode cX5_odds 1 = .ok (.iconst 0, 1) := by decide +kernel
theorem dX5_odds_2 : decode cX5_odds 2 = .ok (.iconst 1, 1) := by decide +kernel
theorem dX5_odds_3 : decode cX5_odds 3 = .ok (.invokestatic 66, 3) := by decide +kernel
theorem dX5_odds_6 : decode cX5_odds 6 = .ok (.ifCond .eq 13, 3) := by decide +kernel
theorem dX5_odds_9 : decode cX5_odds 9 = .ok (.iload_n 2, 1) := by decide +kernel
theorem dX5_odds_10 : decode cX5_odds 10 = .ok (.iconst 0, 1) := by decide +kernel
theorem dX5_odds_11 : decode cX5_odds 11 = .ok (.ldc 119, 2) := by decide +kernel
theorem dX5_odds_13 : decode cX5_odds 13 = .ok (.invokestatic 66, 3) := by decide +kernel
theorem dX5_odds_16 : decode cX5_odds 16 = .ok (.ifCond .ne 13, 3) := by decide +kernel
theorem dX5_odds_19 : decode cX5_odds 19 = .ok (.new 70, 3) := by decide +kernel
theorem dX5_odds_22 : decode cX5_odds 22 = .ok (.dup, 1) := by decide +kernel
theorem dX5_odds_23 : decode cX5_odds 23 = .ok (.ldc 239, 2) := by decide +kernel
theorem dX5_odds_25 : decode cX5_odds 25 = .ok (.invokespecial 74, 3) := by decide +kernel
theorem dX5_odds_28 : decode cX5_odds 28 = .ok (.athrow, 1) := by decide +kernel
theorem dX5_odds_29 : decode cX5_odds 29 = .ok (.iload_n 3, 1) := by decide +kernel
theorem dX5_odds_30 : decode cX5_odds 30 = .ok (.iconst 1, 1) := by decide +kernel
theorem dX5_odds_31 : decode cX5_odds 31 = .ok (.bipush 8, 2) := by decide +kernel
theorem dX5_odds_33 : decode cX5_odds 33 = .ok (.invokestatic 66, 3) := by decide +kernel
theorem dX5_odds_36 : decode cX5_odds 36 = .ok (.ifCond .eq 15, 3) := by decide +kernel
theorem dX5_odds_39 : decode cX5_odds 39 = .ok (.iload 4, 2) := by decide +kernel
theorem dX5_odds_41 : decode cX5_odds 41 = .ok (.iconst 1, 1) := by decide +kernel
theorem dX5_odds_42 : decode cX5_odds 42 = .ok (.sipush 200, 3) := by decide +kernel
theorem dX5_odds_45 : decode cX5_odds 45 = .ok (.invokestatic 66, 3) := by decide +kernel
theorem dX5_odds_48 : decode cX5_odds 48 = .ok (.ifCond .ne 13, 3) := by decide +kernel
theorem dX5_odds_51 : decode cX5_odds 51 = .ok (.new 70, 3) := by decide +kernel
theorem dX5_odds_54 : decode cX5_odds 54 = .ok (.dup, 1) := by decide +kernel
theorem dX5_odds_55 : decode cX5_odds 55 = .ok (.ldc 241, 2) := by decide +kernel
theorem dX5_odds_57 : decode cX5_odds 57 = .ok (.invokespecial 74, 3) := by decide +kernel
theorem dX5_odds_60 : decode cX5_odds 60 = .ok (.athrow, 1) := by decide +kernel
theorem dX5_odds_61 : decode cX5_odds 61 = .ok (.iconst 0, 1) := by decide +kernel
theorem dX5_odds_62 : decode cX5_odds 62 = .ok (.istore 5, 2) := by decide +kernel
theorem dX5_odds_64 : decode cX5_odds 64 = .ok (.iconst 0, 1) := by decide +kernel
theorem dX5_odds_65 : decode cX5_odds 65 = .ok (.istore 6, 2) := by decide +kernel
theorem dX5_odds_67 : decode cX5_odds 67 = .ok (.iconst 0, 1) := by decide +kernel
theorem dX5_odds_68 : decode cX5_odds 68 = .ok (.istore 7, 2) := by decide +kernel
theorem dX5_odds_70 : decode cX5_odds 70 = .ok (.iload 7, 2) := by decide +kernel
theorem dX5_odds_72 : decode cX5_odds 72 = .ok (.iload_n 3, 1) := by decide +kernel
theorem dX5_odds_73 : decode cX5_odds 73 = .ok (.if_icmp .ge 77, 3) := by decide +kernel
theorem dX5_odds_76 : decode cX5_odds 76 = .ok (.aload_n 0, 1) := by decide +kernel
theorem dX5_odds_77 : decode cX5_odds 77 = .ok (.getfield 49, 3) := by decide +kernel
theorem dX5_odds_80 : decode cX5_odds 80 = .ok (.iload_n 1, 1) := by decide +kernel
theorem dX5_odds_81 : decode cX5_odds 81 = .ok (.iload_n 2, 1) := by decide +kernel
theorem dX5_odds_82 : decode cX5_odds 82 = .ok (.iload 7, 2) := by decide +kernel
theorem dX5_odds_84 : decode cX5_odds 84 = .ok (.iadd, 1) := by decide +kernel
theorem dX5_odds_85 : decode cX5_odds 85 = .ok (.aload_n 0, 1) := by decide +kernel
theorem dX5_odds_86 : decode cX5_odds 86 = .ok (.getfield 10, 3) := by decide +kernel
theorem dX5_odds_89 : decode cX5_odds 89 = .ok (.invokevirtual 106, 3) := by decide +kernel
theorem dX5_odds_92 : decode cX5_odds 92 = .ok (.invokevirtual 134, 3) := by decide +kernel
theorem dX5_odds_95 : decode cX5_odds 95 = .ok (.aload_n 0, 1) := by decide +kernel
theorem dX5_odds_96 : decode cX5_odds 96 = .ok (.getfield 38, 3) := by decide +kernel
theorem dX5_odds_99 : decode cX5_odds 99 = .ok (.getfield 224, 3) := by decide +kernel
theorem dX5_odds_102 : decode cX5_odds 102 = .ok (.aload_n 0, 1) := by decide +kernel
theorem dX5_odds_103 : decode cX5_odds 103 = .ok (.getfield 10, 3) := by decide +kernel
theorem dX5_odds_106 : decode cX5_odds 106 = .ok (.aload_n 0, 1) := by decide +kernel
theorem dX5_odds_107 : decode cX5_odds 107 = .ok (.getfield 49, 3) := by decide +kernel
theorem dX5_odds_110 : decode cX5_odds 110 = .ok (.invokevirtual 243, 3) := by decide +kernel
theorem dX5_odds_113 : decode cX5_odds 113 = .ok (.aload_n 0, 1) := by decide +kernel
theorem dX5_odds_114 : decode cX5_odds 114 = .ok (.getfield 38, 3) := by decide +kernel
theorem dX5_odds_117 : decode cX5_odds 117 = .ok (.iload 4, 2) := by decide +kernel
theorem dX5_odds_119 : decode cX5_odds 119 = .ok (.invokevirtual 230, 3) := by decide +kernel
theorem dX5_odds_122 : decode cX5_odds 122 = .ok (.istore 8, 2) := by decide +kernel
theorem dX5_odds_124 : decode cX5_odds 124 = .ok (.iload 8, 2) := by decide +kernel
theorem dX5_odds_126 : decode cX5_odds 126 = .ok (.ifCond .lt 9, 3) := by decide +kernel
theorem dX5_odds_129 : decode cX5_odds 129 = .ok (.iinc 5 1, 3) := by decide +kernel
theorem dX5_odds_132 : decode cX5_odds 132 = .ok (.goto 12, 3) := by decide +kernel
theorem dX5_odds_135 : decode cX5_odds 135 = .ok (.iload 8, 2) := by decide +kernel
theorem dX5_odds_137 : decode cX5_odds 137 = .ok (.iconst (-1), 1) := by decide +kernel
theorem dX5_odds_138 : decode cX5_odds 138 = .ok (.if_icmp .ne 6, 3) := by decide +kernel
theorem dX5_odds_141 : decode cX5_odds 141 = .ok (.iinc 6 1, 3) := by decide +kernel
theorem dX5_odds_144 : decode cX5_odds 144 = .ok (.iinc 7 1, 3) := by decide +kernel
theorem dX5_odds_147 : decode cX5_odds 147 = .ok (.goto (-77), 3) := by decide +kernel
theorem dX5_odds_150 : decode cX5_odds 150 = .ok (.bipush 10, 2) := by decide +kernel
theorem dX5_odds_152 : decode cX5_odds 152 = .ok (.iload 5, 2) := by decide +kernel
theorem dX5_odds_154 : decode cX5_odds 154 = .ok (.imul, 1) := by decide +kernel
theorem dX5_odds_155 : decode cX5_odds 155 = .ok (.iload 6, 2) := by decide +kernel
theorem dX5_odds_157 : decode cX5_odds 157 = .ok (.iadd, 1) := by decide +kernel
theorem dX5_odds_158 : decode cX5_odds 158 = .ok (.ireturn, 1) := by decide +kernel
theorem dX5_dealNumber_0 : decode cX5_dealNumber 0 = .ok (.aload_n 0, 1) := by decide +kernel
theorem dX5_dealNumber_1 : decode cX5_dealNumber 1 = .ok (.getfield 45, 3) := by decide +kernel
theorem dX5_dealNumber_4 : decode cX5_dealNumber 4 = .ok (.iload_n 1, 1) := by decide +kernel
theorem dX5_dealNumber_5 : decode cX5_dealNumber 5 = .ok (.iload_n 2, 1) := by decide +kernel
theorem dX5_dealNumber_6 : decode cX5_dealNumber 6 = .ok (.aload_n 0, 1) := by decide +kernel
theorem dX5_dealNumber_7 : decode cX5_dealNumber 7 = .ok (.getfield 16, 3) := by decide +kernel
theorem dX5_dealNumber_10 : decode cX5_dealNumber 10 = .ok (.invokevirtual 106, 3) := by decide +kernel
theorem dX5_dealNumber_13 : decode cX5_dealNumber 13 = .ok (.invokevirtual 134, 3) := by decide +kernel
theorem dX5_dealNumber_16 : decode cX5_dealNumber 16 = .ok (.aload_n 0, 1) := by decide +kernel
theorem dX5_dealNumber_17 : decode cX5_dealNumber 17 = .ok (.getfield 22, 3) := by decide +kernel
theorem dX5_dealNumber_20 : decode cX5_dealNumber 20 = .ok (.aload_n 0, 1) := by decide +kernel
theorem dX5_dealNumber_21 : decode cX5_dealNumber 21 = .ok (.getfield 16, 3) := by decide +kernel
theorem dX5_dealNumber_24 : decode cX5_dealNumber 24 = .ok (.aload_n 0, 1) := by decide +kernel
theorem dX5_dealNumber_25 : decode cX5_dealNumber 25 = .ok (.getfield 45, 3) := by decide +kernel
theorem dX5_dealNumber_28 : decode cX5_dealNumber 28 = .ok (.invokevirtual 243, 3) := by decide +kernel
theorem dX5_dealNumber_31 : decode cX5_dealNumber 31 = .ok (.aload_n 0, 1) := by decide +kernel
theorem dX5_dealNumber_32 : decode cX5_dealNumber 32 = .ok (.iconst 0, 1) := by decide +kernel
theorem dX5_dealNumber_33 : decode cX5_dealNumber 33 = .ok (.putfield 52, 3) := by decide +kernel
theorem dX5_dealNumber_36 : decode cX5_dealNumber 36 = .ok (.aload_n 0, 1) := by decide +kernel
theorem dX5_dealNumber_37 : decode cX5_dealNumber 37 = .ok (.iconst 0, 1) := by decide +kernel
theorem dX5_dealNumber_38 : decode cX5_dealNumber 38 = .ok (.putfield 56, 3) := by decide +kernel
theorem dX5_dealNumber_41 : decode cX5_dealNumber 41 = .ok (.return_, 1) := by decide +kernel
theorem dX5_doMove_0 : decode cX5_doMove 0 = .ok (.aload_n 0, 1) := by decide +kernel
theorem dX5_doMove_1 : decode cX5_doMove 1 = .ok (.getfield 31, 3) := by decide +kernel
theorem dX5_doMove_4 : decode cX5_doMove 4 = .ok (.aload_n 0, 1) := by decide +kernel
theorem dX5_doMove_5 : decode cX5_doMove 5 = .ok (.getfield 52, 3) := by decide +kernel
theorem dX5_doMove_8 : decode cX5_doMove 8 = .ok (.aload_n 0, 1) := by decide +kernel
theorem dX5_doMove_9 : decode cX5_doMove 9 = .ok (.getfield 22, 3) := by decide +kernel
theorem dX5_doMove_12 : decode cX5_doMove 12 = .ok (.invokevirtual 247, 3) := by decide +kernel
theorem dX5_doMove_15 : decode cX5_doMove 15 = .ok (.aload_n 0, 1) := by decide +kernel
theorem dX5_doMove_16 : decode cX5_doMove 16 = .ok (.getfield 22, 3) := by decide +kernel
theorem dX5_doMove_19 : decode cX5_doMove 19 = .ok (.iload_n 1, 1) := by decide +kernel
theorem dX5_doMove_20 : decode cX5_doMove 20 = .ok (.iload_n 2, 1) := by decide +kernel
theorem dX5_doMove_21 : decode cX5_doMove 21 = .ok (.iload_n 3, 1) := by decide +kernel
theorem dX5_doMove_22 : decode cX5_doMove 22 = .ok (.invokestatic 250, 3) := by decide +kernel
theorem dX5_doMove_25 : decode cX5_doMove 25 = .ok (.invokevirtual 236, 3) := by decide +kernel
theorem dX5_doMove_28 : decode cX5_doMove 28 = .ok (.aload_n 0, 1) := by decide +kernel
theorem dX5_doMove_29 : decode cX5_doMove 29 = .ok (.dup, 1) := by decide +kernel
theorem dX5_doMove_30 : decode cX5_doMove 30 = .ok (.getfield 52, 3) := by decide +kernel
theorem dX5_doMove_33 : decode cX5_doMove 33 = .ok (.iconst 1, 1) := by decide +kernel
theorem dX5_doMove_34 : decode cX5_doMove 34 = .ok (.iadd, 1) := by decide +kernel
theorem dX5_doMove_35 : decode cX5_doMove 35 = .ok (.putfield 52, 3) := by decide +kernel
theorem dX5_doMove_38 : decode cX5_doMove 38 = .ok (.return_, 1) := by decide +kernel
theorem dX5_moneyOfDeal_0 : decode cX5_moneyOfDeal 0 = .ok (.iconst 5, 1) := by decide +kernel
theorem dX5_moneyOfDeal_1 : decode cX5_moneyOfDeal 1 = .ok (.aload_n 0, 1) := by decide +kernel
theorem dX5_moneyOfDeal_2 : decode cX5_moneyOfDeal 2 = .ok (.getfield 22, 3) := by decide +kernel
theorem dX5_moneyOfDeal_5 : decode cX5_moneyOfDeal 5 = .ok (.invokevirtual 161, 3) := by decide +kernel
theorem dX5_moneyOfDeal_8 : decode cX5_moneyOfDeal 8 = .ok (.imul, 1) := by decide +kernel
theorem dX5_moneyOfDeal_9 : decode cX5_moneyOfDeal 9 = .ok (.aload_n 0, 1) := by decide +kernel
theorem dX5_moneyOfDeal_10 : decode cX5_moneyOfDeal 10 = .ok (.getfield 52, 3) := by decide +kernel
theorem dX5_moneyOfDeal_13 : decode cX5_moneyOfDeal 13 = .ok (.isub, 1) := by decide +kernel
theorem dX5_moneyOfDeal_14 : decode cX5_moneyOfDeal 14 = .ok (.iconst 2, 1) := by decide +kernel
theorem dX5_moneyOfDeal_15 : decode cX5_moneyOfDeal 15 = .ok (.aload_n 0, 1) := by decide +kernel
theorem dX5_moneyOfDeal_16 : decode cX5_moneyOfDeal 16 = .ok (.getfield 56, 3) := by decide +kernel
theorem dX5_moneyOfDeal_19 : decode cX5_moneyOfDeal 19 = .ok (.imul, 1) := by decide +kernel
theorem dX5_moneyOfDeal_20 : decode cX5_moneyOfDeal 20 = .ok (.isub, 1) := by decide +kernel
theorem dX5_moneyOfDeal_21 : decode cX5_moneyOfDeal 21 = .ok (.ireturn, 1) := by decide +kernel
theorem dX5_codeOf_0 : decode cX5_codeOf 0 = .ok (.sipush 1000, 3) := by decide +kernel
theorem dX5_codeOf_3 : decode cX5_codeOf 3 = .ok (.iload_n 0, 1) := by decide +kernel
theorem dX5_codeOf_4 : decode cX5_codeOf 4 = .ok (.imul, 1) := by decide +kernel
theorem dX5_codeOf_5 : decode cX5_codeOf 5 = .ok (.bipush 100, 2) := by decide +kernel
theorem dX5_codeOf_7 : decode cX5_codeOf 7 = .ok (.iload_n 1, 1) := by decide +kernel
theorem dX5_codeOf_8 : decode cX5_codeOf 8 = .ok (.imul, 1) := by decide +kernel
theorem dX5_codeOf_9 : decode cX5_codeOf 9 = .ok (.iadd, 1) := by decide +kernel
theorem dX5_codeOf_10 : decode cX5_codeOf 10 = .ok (.iload_n 2, 1) := by decide +kernel
theorem dX5_codeOf_11 : decode cX5_codeOf 11 = .ok (.iadd, 1) := by decide +kernel
theorem dX5_codeOf_12 : decode cX5_codeOf 12 = .ok (.ireturn, 1) := by decide +kernel
theorem dX5_isWithin_0 : decode cX5_isWithin 0 = .ok (.iload_n 0, 1) := by decide +kernel
theorem dX5_isWithin_1 : decode cX5_isWithin 1 = .ok (.iload_n 1, 1) := by decide +kernel
theorem dX5_isWithin_2 : decode cX5_isWithin 2 = .ok (.if_icmp .lt 12, 3) := by decide +kernel
theorem dX5_isWithin_5 : decode cX5_isWithin 5 = .ok (.iload_n 0, 1) := by decide +kernel
theorem dX5_isWithin_6 : decode cX5_isWithin 6 = .ok (.iload_n 2, 1) := by decide +kernel
theorem dX5_isWithin_7 : decode cX5_isWithin 7 = .ok (.if_icmp .gt 7, 3) := by decide +kernel
theorem dX5_isWithin_10 : decode cX5_isWithin 10 = .ok (.iconst 1, 1) := by decide +kernel
theorem dX5_isWithin_11 : decode cX5_isWithin 11 = .ok (.goto 4, 3) := by decide +kernel
theorem dX5_isWithin_14 : decode cX5_isWithin 14 = .ok (.iconst 0, 1) := by decide +kernel
theorem dX5_isWithin_15 : decode cX5_isWithin 15 = .ok (.ireturn, 1) := by decide +kernel
theorem dX5_isColumn_0 : decode cX5_isColumn 0 = .ok (.iload_n 0, 1) := by decide +kernel
theorem dX5_isColumn_1 : decode cX5_isColumn 1 = .ok (.ifCond .lt 12, 3) := by decide +kernel
theorem dX5_isColumn_4 : decode cX5_isColumn 4 = .ok (.iload_n 0, 1) := by decide +kernel
theorem dX5_isColumn_5 : decode cX5_isColumn 5 = .ok (.iconst 5, 1) := by decide +kernel
theorem dX5_isColumn_6 : decode cX5_isColumn 6 = .ok (.if_icmp .ge 7, 3) := by decide +kernel
theorem dX5_isColumn_9 : decode cX5_isColumn 9 = .ok (.iconst 1, 1) := by decide +kernel
theorem dX5_isColumn_10 : decode cX5_isColumn 10 = .ok (.goto 4, 3) := by decide +kernel
theorem dX5_isColumn_13 : decode cX5_isColumn 13 = .ok (.iconst 0, 1) := by decide +kernel
theorem dX5_isColumn_14 : decode cX5_isColumn 14 = .ok (.ireturn, 1) := by decide +kernel
theorem dX5_isCell_0 : decode cX5_isCell 0 = .ok (.iload_n 0, 1) := by decide +kernel
theorem dX5_isCell_1 : decode cX5_isCell 1 = .ok (.iconst 5, 1) := by decide +kernel
theorem dX5_isCell_2 : decode cX5_isCell 2 = .ok (.if_icmp .lt 13, 3) := by decide +kernel
theorem dX5_isCell_5 : decode cX5_isCell 5 = .ok (.iload_n 0, 1) := by decide +kernel
theorem dX5_isCell_6 : decode cX5_isCell 6 = .ok (.bipush 7, 2) := by decide +kernel
theorem dX5_isCell_8 : decode cX5_isCell 8 = .ok (.if_icmp .ge 7, 3) := by decide +kernel
theorem dX5_isCell_11 : decode cX5_isCell 11 = .ok (.iconst 1, 1) := by decide +kernel
theorem dX5_isCell_12 : decode cX5_isCell 12 = .ok (.goto 4, 3) := by decide +kernel
theorem dX5_isCell_15 : decode cX5_isCell 15 = .ok (.iconst 0, 1) := by decide +kernel
theorem dX5_isCell_16 : decode cX5_isCell 16 = .ok (.ireturn, 1) := by decide +kernel
theorem dX5_isCard_0 : decode cX5_isCard 0 = .ok (.iload_n 0, 1) := by decide +kernel
theorem dX5_isCard_1 : decode cX5_isCard 1 = .ok (.ifCond .lt 13, 3) := by decide +kernel
theorem dX5_isCard_4 : decode cX5_isCard 4 = .ok (.iload_n 0, 1) := by decide +kernel
theorem dX5_isCard_5 : decode cX5_isCard 5 = .ok (.bipush 16, 2) := by decide +kernel
theorem dX5_isCard_7 : decode cX5_isCard 7 = .ok (.if_icmp .ge 7, 3) := by decide +kernel
theorem dX5_isCard_10 : decode cX5_isCard 10 = .ok (.iconst 1, 1) := by decide +kernel
theorem dX5_isCard_11 : decode cX5_isCard 11 = .ok (.goto 4, 3) := by decide +kernel
theorem dX5_isCard_14 : decode cX5_isCard 14 = .ok (.iconst 0, 1) := by decide +kernel
theorem dX5_isCard_15 : decode cX5_isCard 15 = .ok (.ireturn, 1) := by decide +kernel
theorem dX5_at_0 : decode cX5_at 0 = .ok (.iload_n 1, 1) := by decide +kernel
theorem dX5_at_1 : decode cX5_at 1 = .ok (.ifCond .lt 15, 3) := by decide +kernel
theorem dX5_at_4 : decode cX5_at 4 = .ok (.iload_n 1, 1) := by decide +kernel
theorem dX5_at_5 : decode cX5_at 5 = .ok (.aload_n 0, 1) := by decide +kernel
theorem dX5_at_6 : decode cX5_at 6 = .ok (.arraylength, 1) := by decide +kernel
theorem dX5_at_7 : decode cX5_at 7 = .ok (.if_icmp .ge 9, 3) := by decide +kernel
theorem dX5_at_10 : decode cX5_at 10 = .ok (.aload_n 0, 1) := by decide +kernel
theorem dX5_at_11 : decode cX5_at 11 = .ok (.iload_n 1, 1) := by decide +kernel
theorem dX5_at_12 : decode cX5_at 12 = .ok (.iaload, 1) := by decide +kernel
theorem dX5_at_13 : decode cX5_at 13 = .ok (.goto 4, 3) := by decide +kernel
theorem dX5_at_16 : decode cX5_at 16 = .ok (.iconst (-1), 1) := by decide +kernel
theorem dX5_at_17 : decode cX5_at 17 = .ok (.ireturn, 1) := by decide +kernel
theorem dX5_put_0 : decode cX5_put 0 = .ok (.iload_n 1, 1) := by decide +kernel
theorem dX5_put_1 : decode cX5_put 1 = .ok (.ifCond .lt 13, 3) := by decide +kernel
theorem dX5_put_4 : decode cX5_put 4 = .ok (.iload_n 1, 1) := by decide +kernel
theorem dX5_put_5 : decode cX5_put 5 = .ok (.aload_n 0, 1) := by decide +kernel
theorem dX5_put_6 : decode cX5_put 6 = .ok (.arraylength, 1) := by decide +kernel
theorem dX5_put_7 : decode cX5_put 7 = .ok (.if_icmp .ge 7, 3) := by decide +kernel
theorem dX5_put_10 : decode cX5_put 10 = .ok (.aload_n 0, 1) := by decide +kernel
theorem dX5_put_11 : decode cX5_put 11 = .ok (.iload_n 1, 1) := by decide +kernel
theorem dX5_put_12 : decode cX5_put 12 = .ok (.iload_n 2, 1) := by decide +kernel
theorem dX5_put_13 : decode cX5_put 13 = .ok (.iastore, 1) := by decide +kernel
theorem dX5_put_14 : decode cX5_put 14 = .ok (.return_, 1) := by decide +kernel
theorem dJ6_bitCount_0f7a4_0 : decode cJ6_bitCount_0f7a4 0 = .ok (.iload_n 0, 1) := by decide +kernel
theorem dJ6_bitCount_0f7a4_1 : decode cJ6_bitCount_0f7a4 1 = .ok (.iload_n 0, 1) := by decide +kernel
theorem dJ6_bitCount_0f7a4_2 : decode cJ6_bitCount_0f7a4 2 = .ok (.iconst 1, 1) := by decide +kernel
theorem dJ6_bitCount_0f7a4_3 : decode cJ6_bitCount_0f7a4 3 = .ok (.iushr, 1) := by decide +kernel
theorem dJ6_bitCount_0f7a4_4 : decode cJ6_bitCount_0f7a4 4 = .ok (.ldc_w 265, 3) := by decide +kernel
theorem dJ6_bitCount_0f7a4_7 : decode cJ6_bitCount_0f7a4 7 = .ok (.iand, 1) := by decide +kernel
theorem dJ6_bitCount_0f7a4_8 : decode cJ6_bitCount_0f7a4 8 = .ok (.isub, 1) := by decide +kernel
theorem dJ6_bitCount_0f7a4_9 : decode cJ6_bitCount_0f7a4 9 = .ok (.istore_n 0, 1) := by decide +kernel
theorem dJ6_bitCount_0f7a4_10 : decode cJ6_bitCount_0f7a4 10 = .ok (.iload_n 0, 1) := by decide +kernel
theorem dJ6_bitCount_0f7a4_11 : decode cJ6_bitCount_0f7a4 11 = .ok (.ldc_w 266, 3) := by decide +kernel
theorem dJ6_bitCount_0f7a4_14 : decode cJ6_bitCount_0f7a4 14 = .ok (.iand, 1) := by decide +kernel
theorem dJ6_bitCount_0f7a4_15 : decode cJ6_bitCount_0f7a4 15 = .ok (.iload_n 0, 1) := by decide +kernel
theorem dJ6_bitCount_0f7a4_16 : decode cJ6_bitCount_0f7a4 16 = .ok (.iconst 2, 1) := by decide +kernel
theorem dJ6_bitCount_0f7a4_17 : decode cJ6_bitCount_0f7a4 17 = .ok (.iushr, 1) := by decide +kernel
theorem dJ6_bitCount_0f7a4_18 : decode cJ6_bitCount_0f7a4 18 = .ok (.ldc_w 266, 3) := by decide +kernel
theorem dJ6_bitCount_0f7a4_21 : decode cJ6_bitCount_0f7a4 21 = .ok (.iand, 1) := by decide +kernel
theorem dJ6_bitCount_0f7a4_22 : decode cJ6_bitCount_0f7a4 22 = .ok (.iadd, 1) := by decide +kernel
theorem dJ6_bitCount_0f7a4_23 : decode cJ6_bitCount_0f7a4 23 = .ok (.istore_n 0, 1) := by decide +kernel
theorem dJ6_bitCount_0f7a4_24 : decode cJ6_bitCount_0f7a4 24 = .ok (.iload_n 0, 1) := by decide +kernel
theorem dJ6_bitCount_0f7a4_25 : decode cJ6_bitCount_0f7a4 25 = .ok (.iload_n 0, 1) := by decide +kernel
theorem dJ6_bitCount_0f7a4_26 : decode cJ6_bitCount_0f7a4 26 = .ok (.iconst 4, 1) := by decide +kernel
theorem dJ6_bitCount_0f7a4_27 : decode cJ6_bitCount_0f7a4 27 = .ok (.iushr, 1) := by decide +kernel
theorem dJ6_bitCount_0f7a4_28 : decode cJ6_bitCount_0f7a4 28 = .ok (.iadd, 1) := by decide +kernel
theorem dJ6_bitCount_0f7a4_29 : decode cJ6_bitCount_0f7a4 29 = .ok (.ldc_w 267, 3) := by decide +kernel
theorem dJ6_bitCount_0f7a4_32 : decode cJ6_bitCount_0f7a4 32 = .ok (.iand, 1) := by decide +kernel
theorem dJ6_bitCount_0f7a4_33 : decode cJ6_bitCount_0f7a4 33 = .ok (.istore_n 0, 1) := by decide +kernel
theorem dJ6_bitCount_0f7a4_34 : decode cJ6_bitCount_0f7a4 34 = .ok (.iload_n 0, 1) := by decide +kernel
theorem dJ6_bitCount_0f7a4_35 : decode cJ6_bitCount_0f7a4 35 = .ok (.iload_n 0, 1) := by decide +kernel
theorem dJ6_bitCount_0f7a4_36 : decode cJ6_bitCount_0f7a4 36 = .ok (.bipush 8, 2) := by decide +kernel
theorem dJ6_bitCount_0f7a4_38 : decode cJ6_bitCount_0f7a4 38 = .ok (.iushr, 1) := by decide +kernel
theorem dJ6_bitCount_0f7a4_39 : decode cJ6_bitCount_0f7a4 39 = .ok (.iadd, 1) := by decide +kernel
theorem dJ6_bitCount_0f7a4_40 : decode cJ6_bitCount_0f7a4 40 = .ok (.istore_n 0, 1) := by decide +kernel
theorem dJ6_bitCount_0f7a4_41 : decode cJ6_bitCount_0f7a4 41 = .ok (.iload_n 0, 1) := by decide +kernel
theorem dJ6_bitCount_0f7a4_42 : decode cJ6_bitCount_0f7a4 42 = .ok (.iload_n 0, 1) := by decide +kernel
theorem dJ6_bitCount_0f7a4_43 : decode cJ6_bitCount_0f7a4 43 = .ok (.bipush 16, 2) := by decide +kernel
theorem dJ6_bitCount_0f7a4_45 : decode cJ6_bitCount_0f7a4 45 = .ok (.iushr, 1) := by decide +kernel
theorem dJ6_bitCount_0f7a4_46 : decode cJ6_bitCount_0f7a4 46 = .ok (.iadd, 1) := by decide +kernel
theorem dJ6_bitCount_0f7a4_47 : decode cJ6_bitCount_0f7a4 47 = .ok (.istore_n 0, 1) := by decide +kernel
theorem dJ6_bitCount_0f7a4_48 : decode cJ6_bitCount_0f7a4 48 = .ok (.iload_n 0, 1) := by decide +kernel
theorem dJ6_bitCount_0f7a4_49 : decode cJ6_bitCount_0f7a4 49 = .ok (.bipush 63, 2) := by decide +kernel
theorem dJ6_bitCount_0f7a4_51 : decode cJ6_bitCount_0f7a4 51 = .ok (.iand, 1) := by decide +kernel
theorem dJ6_bitCount_0f7a4_52 : decode cJ6_bitCount_0f7a4 52 = .ok (.ireturn, 1) := by decide +kernel
theorem dJ9_max_7cf53_0 : decode cJ9_max_7cf53 0 = .ok (.iload_n 0, 1) := by decide +kernel
theorem dJ9_max_7cf53_1 : decode cJ9_max_7cf53 1 = .ok (.iload_n 1, 1) := by decide +kernel
theorem dJ9_max_7cf53_2 : decode cJ9_max_7cf53 2 = .ok (.if_icmp .lt 7, 3) := by decide +kernel
theorem dJ9_max_7cf53_5 : decode cJ9_max_7cf53 5 = .ok (.iload_n 0, 1) := by decide +kernel
theorem dJ9_max_7cf53_6 : decode cJ9_max_7cf53 6 = .ok (.goto 4, 3) := by decide +kernel
theorem dJ9_max_7cf53_9 : decode cJ9_max_7cf53 9 = .ok (.iload_n 1, 1) := by decide +kernel
theorem dJ9_max_7cf53_10 : decode cJ9_max_7cf53 10 = .ok (.ireturn, 1) := by decide +kernel
theorem dJ9_min_7cf53_0 : decode cJ9_min_7cf53 0 = .ok (.iload_n 0, 1) := by decide +kernel
theorem dJ9_min_7cf53_1 : decode cJ9_min_7cf53 1 = .ok (.iload_n 1, 1) := by decide +kernel
theorem dJ9_min_7cf53_2 : decode cJ9_min_7cf53 2 = .ok (.if_icmp .gt 7, 3) := by decide +kernel
theorem dJ9_min_7cf53_5 : decode cJ9_min_7cf53 5 = .ok (.iload_n 0, 1) := by decide +kernel
theorem dJ9_min_7cf53_6 : decode cJ9_min_7cf53 6 = .ok (.goto 4, 3) := by decide +kernel
theorem dJ9_min_7cf53_9 : decode cJ9_min_7cf53 9 = .ok (.iload_n 1, 1) := by decide +kernel
theorem dJ9_min_7cf53_10 : decode cJ9_min_7cf53 10 = .ok (.ireturn, 1) := by decide +kernel
theorem dJ7_fill_53178_0 : decode cJ7_fill_53178 0 = .ok (.iconst 0, 1) := by decide +kernel
theorem dJ7_fill_53178_1 : decode cJ7_fill_53178 1 = .ok (.istore_n 2, 1) := by decide +kernel
theorem dJ7_fill_53178_2 : decode cJ7_fill_53178 2 = .ok (.aload_n 0, 1) := by decide +kernel
theorem dJ7_fill_53178_3 : decode cJ7_fill_53178 3 = .ok (.arraylength, 1) := by decide +kernel
theorem dJ7_fill_53178_4 : decode cJ7_fill_53178 4 = .ok (.istore_n 3, 1) := by decide +kernel
theorem dJ7_fill_53178_5 : decode cJ7_fill_53178 5 = .ok (.iload_n 2, 1) := by decide +kernel
theorem dJ7_fill_53178_6 : decode cJ7_fill_53178 6 = .ok (.iload_n 3, 1) := by decide +kernel
theorem dJ7_fill_53178_7 : decode cJ7_fill_53178 7 = .ok (.if_icmp .ge 13, 3) := by decide +kernel
theorem dJ7_fill_53178_10 : decode cJ7_fill_53178 10 = .ok (.aload_n 0, 1) := by decide +kernel
theorem dJ7_fill_53178_11 : decode cJ7_fill_53178 11 = .ok (.iload_n 2, 1) := by decide +kernel
theorem dJ7_fill_53178_12 : decode cJ7_fill_53178 12 = .ok (.iload_n 1, 1) := by decide +kernel
theorem dJ7_fill_53178_13 : decode cJ7_fill_53178 13 = .ok (.iastore, 1) := by decide +kernel
theorem dJ7_fill_53178_14 : decode cJ7_fill_53178 14 = .ok (.iinc 2 1, 3) := by decide +kernel
theorem dJ7_fill_53178_17 : decode cJ7_fill_53178 17 = .ok (.goto (-12), 3) := by decide +kernel
theorem dJ7_fill_53178_20 : decode cJ7_fill_53178 20 = .ok (.return_, 1) := by decide +kernel
