theorem dL_cell_0 : decode cL_cell 0 = .ok (.iload_n 1, 1) := by decide +kernel
theorem dL_cell_1 : decode cL_cell 1 = .ok (.aload_n 0, 1) := by decide +kernel
theorem dL_cell_2 : decode cL_cell 2 = .ok (.arraylength, 1) := by decide +kernel
theorem dL_cell_3 : decode cL_cell 3 = .ok (.if_icmp .ge 9, 3) := by decide +kernel
theorem dL_cell_6 : decode cL_cell 6 = .ok (.aload_n 0, 1) := by decide +kernel
theorem dL_cell_7 : decode cL_cell 7 = .ok (.iload_n 1, 1) := by decide +kernel
theorem dL_cell_8 : decode cL_cell 8 = .ok (.iaload, 1) := by decide +kernel
theorem dL_cell_9 : decode cL_cell 9 = .ok (.goto 18, 3) := by decide +kernel
theorem dL_cell_12 : decode cL_cell 12 = .ok (.sipush 7919, 3) := by decide +kernel
theorem dL_cell_15 : decode cL_cell 15 = .ok (.iload_n 1, 1) := by decide +kernel
theorem dL_cell_16 : decode cL_cell 16 = .ok (.sipush 2521, 3) := by decide +kernel
theorem dL_cell_19 : decode cL_cell 19 = .ok (.iadd, 1) := by decide +kernel
theorem dL_cell_20 : decode cL_cell 20 = .ok (.imul, 1) := by decide +kernel
theorem dL_cell_21 : decode cL_cell 21 = .ok (.iload_n 1, 1) := by decide +kernel
theorem dL_cell_22 : decode cL_cell 22 = .ok (.sipush 293, 3) := by decide +kernel
theorem dL_cell_25 : decode cL_cell 25 = .ok (.iadd, 1) := by decide +kernel
theorem dL_cell_26 : decode cL_cell 26 = .ok (.imul, 1) := by decide +kernel
theorem dL_cell_27 : decode cL_cell 27 = .ok (.ireturn, 1) := by decide +kernel
theorem dL_low_0 : decode cL_low 0 = .ok (.iload_n 0, 1) := by decide +kernel
theorem dL_low_1 : decode cL_low 1 = .ok (.ldc 7, 2) := by decide +kernel
theorem dL_low_3 : decode cL_low 3 = .ok (.iand, 1) := by decide +kernel
theorem dL_low_4 : decode cL_low 4 = .ok (.iload_n 1, 1) := by decide +kernel
theorem dL_low_5 : decode cL_low 5 = .ok (.irem, 1) := by decide +kernel
theorem dL_low_6 : decode cL_low 6 = .ok (.ireturn, 1) := by decide +kernel
theorem dL_deck_0 : decode cL_deck 0 = .ok (.aload_n 0, 1) := by decide +kernel
theorem dL_deck_1 : decode cL_deck 1 = .ok (.iload_n 1, 1) := by decide +kernel
theorem dL_deck_2 : decode cL_deck 2 = .ok (.iload_n 2, 1) := by decide +kernel
theorem dL_deck_3 : decode cL_deck 3 = .ok (.invokevirtual 8, 3) := by decide +kernel
theorem dL_deck_6 : decode cL_deck 6 = .ok (.ireturn, 1) := by decide +kernel
theorem dL_deck_7 : decode cL_deck 7 = .ok (.astore_n 3, 1) := by decide +kernel
theorem dL_deck_8 : decode cL_deck 8 = .ok (.ldc 16, 2) := by decide +kernel
theorem dL_deck_10 : decode cL_deck 10 = .ok (.ireturn, 1) := by decide +kernel
theorem dL_table_0 : decode cL_table 0 = .ok (.aload_n 0, 1) := by decide +kernel
theorem dL_table_1 : decode cL_table 1 = .ok (.iload_n 1, 1) := by decide +kernel
theorem dL_table_2 : decode cL_table 2 = .ok (.iload_n 2, 1) := by decide +kernel
theorem dL_table_3 : decode cL_table 3 = .ok (.iload_n 3, 1) := by decide +kernel
theorem dL_table_4 : decode cL_table 4 = .ok (.iload 4, 2) := by decide +kernel
theorem dL_table_6 : decode cL_table 6 = .ok (.invokevirtual 17, 3) := by decide +kernel
theorem dL_table_9 : decode cL_table 9 = .ok (.iconst 0, 1) := by decide +kernel
theorem dL_table_10 : decode cL_table 10 = .ok (.ireturn, 1) := by decide +kernel
theorem dL_table_11 : decode cL_table 11 = .ok (.astore 5, 2) := by decide +kernel
theorem dL_table_13 : decode cL_table 13 = .ok (.ldc 16, 2) := by decide +kernel
theorem dL_table_15 : decode cL_table 15 = .ok (.ireturn, 1) := by decide +kernel
theorem dL_stock_0 : decode cL_stock 0 = .ok (.aload_n 0, 1) := by decide +kernel
theorem dL_stock_1 : decode cL_stock 1 = .ok (.iload_n 1, 1) := by decide +kernel
theorem dL_stock_2 : decode cL_stock 2 = .ok (.iload_n 2, 1) := by decide +kernel
theorem dL_stock_3 : decode cL_stock 3 = .ok (.iload_n 3, 1) := by decide +kernel
theorem dL_stock_4 : decode cL_stock 4 = .ok (.invokevirtual 21, 3) := by decide +kernel
theorem dL_stock_7 : decode cL_stock 7 = .ok (.iconst 0, 1) := by decide +kernel
theorem dL_stock_8 : decode cL_stock 8 = .ok (.ireturn, 1) := by decide +kernel
theorem dL_stock_9 : decode cL_stock 9 = .ok (.astore 4, 2) := by decide +kernel
theorem dL_stock_11 : decode cL_stock 11 = .ok (.ldc 16, 2) := by decide +kernel
theorem dL_stock_13 : decode cL_stock 13 = .ok (.ireturn, 1) := by decide +kernel
theorem dL_deal_0 : decode cL_deal 0 = .ok (.aload_n 0, 1) := by decide +kernel
theorem dL_deal_1 : decode cL_deal 1 = .ok (.iload_n 1, 1) := by decide +kernel
theorem dL_deal_2 : decode cL_deal 2 = .ok (.iload_n 2, 1) := by decide +kernel
theorem dL_deal_3 : decode cL_deal 3 = .ok (.invokevirtual 25, 3) := by decide +kernel
theorem dL_deal_6 : decode cL_deal 6 = .ok (.ireturn, 1) := by decide +kernel
theorem dL_deal_7 : decode cL_deal 7 = .ok (.astore_n 3, 1) := by decide +kernel
theorem dL_deal_8 : decode cL_deal 8 = .ok (.ldc 16, 2) := by decide +kernel
theorem dL_deal_10 : decode cL_deal 10 = .ok (.ireturn, 1) := by decide +kernel
theorem dL_numberOf_0 : decode cL_numberOf 0 = .ok (.aload_n 0, 1) := by decide +kernel
theorem dL_numberOf_1 : decode cL_numberOf 1 = .ok (.iload_n 1, 1) := by decide +kernel
theorem dL_numberOf_2 : decode cL_numberOf 2 = .ok (.invokevirtual 28, 3) := by decide +kernel
theorem dL_numberOf_5 : decode cL_numberOf 5 = .ok (.ireturn, 1) := by decide +kernel
theorem dL_numberOf_6 : decode cL_numberOf 6 = .ok (.astore_n 2, 1) := by decide +kernel
theorem dL_numberOf_7 : decode cL_numberOf 7 = .ok (.ldc 16, 2) := by decide +kernel
theorem dL_numberOf_9 : decode cL_numberOf 9 = .ok (.ireturn, 1) := by decide +kernel
theorem dL_move_0 : decode cL_move 0 = .ok (.aload_n 0, 1) := by decide +kernel
theorem dL_move_1 : decode cL_move 1 = .ok (.iload_n 1, 1) := by decide +kernel
theorem dL_move_2 : decode cL_move 2 = .ok (.iload_n 2, 1) := by decide +kernel
theorem dL_move_3 : decode cL_move 3 = .ok (.iload_n 3, 1) := by decide +kernel
theorem dL_move_4 : decode cL_move 4 = .ok (.invokevirtual 32, 3) := by decide +kernel
theorem dL_move_7 : decode cL_move 7 = .ok (.ireturn, 1) := by decide +kernel
theorem dL_move_8 : decode cL_move 8 = .ok (.astore 4, 2) := by decide +kernel
theorem dL_move_10 : decode cL_move 10 = .ok (.ldc 16, 2) := by decide +kernel
theorem dL_move_12 : decode cL_move 12 = .ok (.ireturn, 1) := by decide +kernel
theorem dL_move_13 : decode cL_move 13 = .ok (.astore 4, 2) := by decide +kernel
theorem dL_move_15 : decode cL_move 15 = .ok (.ldc 16, 2) := by decide +kernel
theorem dL_move_17 : decode cL_move 17 = .ok (.ireturn, 1) := by decide +kernel
theorem dL_undo_0 : decode cL_undo 0 = .ok (.aload_n 0, 1) := by decide +kernel
theorem dL_undo_1 : decode cL_undo 1 = .ok (.iload_n 1, 1) := by decide +kernel
theorem dL_undo_2 : decode cL_undo 2 = .ok (.invokevirtual 38, 3) := by decide +kernel
theorem dL_undo_5 : decode cL_undo 5 = .ok (.ireturn, 1) := by decide +kernel
theorem dL_undo_6 : decode cL_undo 6 = .ok (.astore_n 2, 1) := by decide +kernel
theorem dL_undo_7 : decode cL_undo 7 = .ok (.ldc 16, 2) := by decide +kernel
theorem dL_undo_9 : decode cL_undo 9 = .ok (.ireturn, 1) := by decide +kernel
theorem dL_moveAt_0 : decode cL_moveAt 0 = .ok (.aload_n 0, 1) := by decide +kernel
theorem dL_moveAt_1 : decode cL_moveAt 1 = .ok (.iload_n 1, 1) := by decide +kernel
theorem dL_moveAt_2 : decode cL_moveAt 2 = .ok (.invokevirtual 41, 3) := by decide +kernel
theorem dL_moveAt_5 : decode cL_moveAt 5 = .ok (.ireturn, 1) := by decide +kernel
theorem dL_moveAt_6 : decode cL_moveAt 6 = .ok (.astore_n 2, 1) := by decide +kernel
theorem dL_moveAt_7 : decode cL_moveAt 7 = .ok (.ldc 16, 2) := by decide +kernel
theorem dL_moveAt_9 : decode cL_moveAt 9 = .ok (.ireturn, 1) := by decide +kernel
theorem dL_card_0 : decode cL_card 0 = .ok (.aload_n 0, 1) := by decide +kernel
theorem dL_card_1 : decode cL_card 1 = .ok (.iload_n 1, 1) := by decide +kernel
theorem dL_card_2 : decode cL_card 2 = .ok (.iload_n 2, 1) := by decide +kernel
theorem dL_card_3 : decode cL_card 3 = .ok (.invokevirtual 46, 3) := by decide +kernel
theorem dL_card_6 : decode cL_card 6 = .ok (.ireturn, 1) := by decide +kernel
theorem dL_card_7 : decode cL_card 7 = .ok (.astore_n 3, 1) := by decide +kernel
theorem dL_card_8 : decode cL_card 8 = .ok (.ldc 16, 2) := by decide +kernel
theorem dL_card_10 : decode cL_card 10 = .ok (.ireturn, 1) := by decide +kernel
theorem dL_told_0 : decode cL_told 0 = .ok (.aload_n 0, 1) := by decide +kernel
theorem dL_told_1 : decode cL_told 1 = .ok (.iload_n 1, 1) := by decide +kernel
theorem dL_told_2 : decode cL_told 2 = .ok (.invokevirtual 49, 3) := by decide +kernel
theorem dL_told_5 : decode cL_told 5 = .ok (.ireturn, 1) := by decide +kernel
theorem dL_told_6 : decode cL_told 6 = .ok (.astore_n 2, 1) := by decide +kernel
theorem dL_told_7 : decode cL_told 7 = .ok (.ldc 16, 2) := by decide +kernel
theorem dL_told_9 : decode cL_told 9 = .ok (.ireturn, 1) := by decide +kernel
theorem dL_search_0 : decode cL_search 0 = .ok (.aload_n 0, 1) := by decide +kernel
theorem dL_search_1 : decode cL_search 1 = .ok (.iload_n 1, 1) := by decide +kernel
theorem dL_search_2 : decode cL_search 2 = .ok (.invokevirtual 52, 3) := by decide +kernel
theorem dL_search_5 : decode cL_search 5 = .ok (.ireturn, 1) := by decide +kernel
theorem dL_search_6 : decode cL_search 6 = .ok (.astore_n 2, 1) := by decide +kernel
theorem dL_search_7 : decode cL_search 7 = .ok (.ldc 16, 2) := by decide +kernel
theorem dL_search_9 : decode cL_search 9 = .ok (.ireturn, 1) := by decide +kernel
theorem dL_known_0 : decode cL_known 0 = .ok (.aload_n 0, 1) := by decide +kernel
theorem dL_known_1 : decode cL_known 1 = .ok (.iload_n 1, 1) := by decide +kernel
theorem dL_known_2 : decode cL_known 2 = .ok (.invokevirtual 55, 3) := by decide +kernel
theorem dL_known_5 : decode cL_known 5 = .ok (.ireturn, 1) := by decide +kernel
theorem dL_known_6 : decode cL_known 6 = .ok (.astore_n 2, 1) := by decide +kernel
theorem dL_known_7 : decode cL_known 7 = .ok (.ldc 16, 2) := by decide +kernel
theorem dL_known_9 : decode cL_known 9 = .ok (.ireturn, 1) := by decide +kernel
theorem dL_odds_0 : decode cL_odds 0 = .ok (.aload_n 0, 1) := by decide +kernel
theorem dL_odds_1 : decode cL_odds 1 = .ok (.iload_n 1, 1) := by decide +kernel
theorem dL_odds_2 : decode cL_odds 2 = .ok (.iload_n 2, 1) := by decide +kernel
theorem dL_odds_3 : decode cL_odds 3 = .ok (.iload_n 3, 1) := by decide +kernel
theorem dL_odds_4 : decode cL_odds 4 = .ok (.iload 4, 2) := by decide +kernel
theorem dL_odds_6 : decode cL_odds 6 = .ok (.invokevirtual 58, 3) := by decide +kernel
theorem dL_odds_9 : decode cL_odds 9 = .ok (.ireturn, 1) := by decide +kernel
theorem dL_odds_10 : decode cL_odds 10 = .ok (.astore 5, 2) := by decide +kernel
theorem dL_odds_12 : decode cL_odds 12 = .ok (.ldc 16, 2) := by decide +kernel
theorem dL_odds_14 : decode cL_odds 14 = .ok (.ireturn, 1) := by decide +kernel
theorem dL_act_0 : decode cL_act 0 = .ok (.iload_n 1, 1) := by decide +kernel
theorem dL_act_1 : decode cL_act 1 = .ok (.bipush 26, 2) := by decide +kernel
theorem dL_act_3 : decode cL_act 3 = .ok (.ishr, 1) := by decide +kernel
theorem dL_act_4 : decode cL_act 4 = .ok (.bipush 14, 2) := by decide +kernel
theorem dL_act_6 : decode cL_act 6 = .ok (.invokestatic 62, 3) := by decide +kernel
theorem dL_act_9 : decode cL_act 9 = .ok (.ifCond .ne 7, 3) := by decide +kernel
theorem dL_act_12 : decode cL_act 12 = .ok (.iconst 1, 1) := by decide +kernel
theorem dL_act_13 : decode cL_act 13 = .ok (.goto 4, 3) := by decide +kernel
theorem dL_act_16 : decode cL_act 16 = .ok (.iconst 0, 1) := by decide +kernel
theorem dL_act_17 : decode cL_act 17 = .ok (.istore_n 3, 1) := by decide +kernel
theorem dL_act_18 : decode cL_act 18 = .ok (.iload_n 3, 1) := by decide +kernel
theorem dL_act_19 : decode cL_act 19 = .ok (.ifCond .eq 10, 3) := by decide +kernel
theorem dL_act_22 : decode cL_act 22 = .ok (.iload_n 1, 1) := by decide +kernel
theorem dL_act_23 : decode cL_act 23 = .ok (.bipush 9, 2) := by decide +kernel
theorem dL_act_25 : decode cL_act 25 = .ok (.ishr, 1) := by decide +kernel
theorem dL_act_26 : decode cL_act 26 = .ok (.goto 11, 3) := by decide +kernel
theorem dL_act_29 : decode cL_act 29 = .ok (.iload_n 1, 1) := by decide +kernel
theorem dL_act_30 : decode cL_act 30 = .ok (.bipush 9, 2) := by decide +kernel
theorem dL_act_32 : decode cL_act 32 = .ok (.ishr, 1) := by decide +kernel
theorem dL_act_33 : decode cL_act 33 = .ok (.iconst 5, 1) := by decide +kernel
theorem dL_act_34 : decode cL_act 34 = .ok (.invokestatic 62, 3) := by decide +kernel
theorem dL_act_37 : decode cL_act 37 = .ok (.istore 4, 2) := by decide +kernel
theorem dL_act_39 : decode cL_act 39 = .ok (.iload_n 3, 1) := by decide +kernel
theorem dL_act_40 : decode cL_act 40 = .ok (.ifCond .eq 17, 3) := by decide +kernel
theorem dL_act_43 : decode cL_act 43 = .ok (.iload_n 1, 1) := by decide +kernel
theorem dL_act_44 : decode cL_act 44 = .ok (.bipush 6, 2) := by decide +kernel
theorem dL_act_46 : decode cL_act 46 = .ok (.ishr, 1) := by decide +kernel
theorem dL_act_47 : decode cL_act 47 = .ok (.bipush 13, 2) := by decide +kernel
theorem dL_act_49 : decode cL_act 49 = .ok (.invokestatic 62, 3) := by decide +kernel
theorem dL_act_52 : decode cL_act 52 = .ok (.iconst 2, 1) := by decide +kernel
theorem dL_act_53 : decode cL_act 53 = .ok (.isub, 1) := by decide +kernel
theorem dL_act_54 : decode cL_act 54 = .ok (.goto 11, 3) := by decide +kernel
theorem dL_act_57 : decode cL_act 57 = .ok (.iload_n 1, 1) := by decide +kernel
theorem dL_act_58 : decode cL_act 58 = .ok (.bipush 6, 2) := by decide +kernel
theorem dL_act_60 : decode cL_act 60 = .ok (.ishr, 1) := by decide +kernel
theorem dL_act_61 : decode cL_act 61 = .ok (.iconst 5, 1) := by decide +kernel
theorem dL_act_62 : decode cL_act 62 = .ok (.invokestatic 62, 3) := by decide +kernel
theorem dL_act_65 : decode cL_act 65 = .ok (.istore 5, 2) := by decide +kernel
theorem dL_act_67 : decode cL_act 67 = .ok (.iload_n 1, 1) := by decide +kernel
theorem dL_act_68 : decode cL_act 68 = .ok (.bipush 32, 2) := by decide +kernel
theorem dL_act_70 : decode cL_act 70 = .ok (.invokestatic 62, 3) := by decide +kernel
theorem dL_act_73 : decode cL_act 73 = .ok (.tableswitch 724 0 25 #[119, 162, 228, 282, 282, 322, 358, 358, 358, 358, 358, 358, 358, 358, 358, 358, 477, 477, 501, 506, 529, 568, 608, 684, 684, 684], 119) := by decide +kernel
theorem dL_act_192 : decode cL_act 192 = .ok (.aload_n 0, 1) := by decide +kernel
theorem dL_act_193 : decode cL_act 193 = .ok (.iload_n 3, 1) := by decide +kernel
theorem dL_act_194 : decode cL_act 194 = .ok (.ifCond .eq 8, 3) := by decide +kernel
theorem dL_act_197 : decode cL_act 197 = .ok (.iload 4, 2) := by decide +kernel
theorem dL_act_199 : decode cL_act 199 = .ok (.goto 13, 3) := by decide +kernel
theorem dL_act_202 : decode cL_act 202 = .ok (.iconst 1, 1) := by decide +kernel
theorem dL_act_203 : decode cL_act 203 = .ok (.iload_n 1, 1) := by decide +kernel
theorem dL_act_204 : decode cL_act 204 = .ok (.bipush 9, 2) := by decide +kernel
theorem dL_act_206 : decode cL_act 206 = .ok (.ishr, 1) := by decide +kernel
theorem dL_act_207 : decode cL_act 207 = .ok (.iconst 3, 1) := by decide +kernel
theorem dL_act_208 : decode cL_act 208 = .ok (.invokestatic 62, 3) := by decide +kernel
theorem dL_act_211 : decode cL_act 211 = .ok (.iadd, 1) := by decide +kernel
theorem dL_act_212 : decode cL_act 212 = .ok (.iload_n 3, 1) := by decide +kernel
theorem dL_act_213 : decode cL_act 213 = .ok (.ifCond .eq 8, 3) := by decide +kernel
theorem dL_act_216 : decode cL_act 216 = .ok (.iload 5, 2) := by decide +kernel
theorem dL_act_218 : decode cL_act 218 = .ok (.goto 13, 3) := by decide +kernel
theorem dL_act_221 : decode cL_act 221 = .ok (.iconst 1, 1) := by decide +kernel
theorem dL_act_222 : decode cL_act 222 = .ok (.iload_n 1, 1) := by decide +kernel
theorem dL_act_223 : decode cL_act 223 = .ok (.bipush 6, 2) := by decide +kernel
theorem dL_act_225 : decode cL_act 225 = .ok (.ishr, 1) := by decide +kernel
theorem dL_act_226 : decode cL_act 226 = .ok (.iconst 5, 1) := by decide +kernel
theorem dL_act_227 : decode cL_act 227 = .ok (.invokestatic 62, 3) := by decide +kernel
theorem dL_act_230 : decode cL_act 230 = .ok (.iadd, 1) := by decide +kernel
theorem dL_act_231 : decode cL_act 231 = .ok (.invokestatic 67, 3) := by decide +kernel
theorem dL_act_234 : decode cL_act 234 = .ok (.ireturn, 1) := by decide +kernel
theorem dL_act_235 : decode cL_act 235 = .ok (.aload_n 0, 1) := by decide +kernel
theorem dL_act_236 : decode cL_act 236 = .ok (.iload_n 3, 1) := by decide +kernel
theorem dL_act_237 : decode cL_act 237 = .ok (.ifCond .eq 8, 3) := by decide +kernel
theorem dL_act_240 : decode cL_act 240 = .ok (.iload 4, 2) := by decide +kernel
theorem dL_act_242 : decode cL_act 242 = .ok (.goto 13, 3) := by decide +kernel
theorem dL_act_245 : decode cL_act 245 = .ok (.iconst 1, 1) := by decide +kernel
theorem dL_act_246 : decode cL_act 246 = .ok (.iload_n 1, 1) := by decide +kernel
theorem dL_act_247 : decode cL_act 247 = .ok (.bipush 9, 2) := by decide +kernel
theorem dL_act_249 : decode cL_act 249 = .ok (.ishr, 1) := by decide +kernel
theorem dL_act_250 : decode cL_act 250 = .ok (.iconst 5, 1) := by decide +kernel
theorem dL_act_251 : decode cL_act 251 = .ok (.invokestatic 62, 3) := by decide +kernel
theorem dL_act_254 : decode cL_act 254 = .ok (.iadd, 1) := by decide +kernel
theorem dL_act_255 : decode cL_act 255 = .ok (.iload_n 3, 1) := by decide +kernel
theorem dL_act_256 : decode cL_act 256 = .ok (.ifCond .eq 8, 3) := by decide +kernel
theorem dL_act_259 : decode cL_act 259 = .ok (.iload 5, 2) := by decide +kernel
theorem dL_act_261 : decode cL_act 261 = .ok (.goto 11, 3) := by decide +kernel
theorem dL_act_264 : decode cL_act 264 = .ok (.iload_n 1, 1) := by decide +kernel
theorem dL_act_265 : decode cL_act 265 = .ok (.bipush 6, 2) := by decide +kernel
theorem dL_act_267 : decode cL_act 267 = .ok (.ishr, 1) := by decide +kernel
theorem dL_act_268 : decode cL_act 268 = .ok (.iconst 3, 1) := by decide +kernel
theorem dL_act_269 : decode cL_act 269 = .ok (.invokestatic 62, 3) := by decide +kernel
theorem dL_act_272 : decode cL_act 272 = .ok (.iload_n 3, 1) := by decide +kernel
theorem dL_act_273 : decode cL_act 273 = .ok (.ifCond .eq 8, 3) := by decide +kernel
theorem dL_act_276 : decode cL_act 276 = .ok (.iload 5, 2) := by decide +kernel
theorem dL_act_278 : decode cL_act 278 = .ok (.goto 11, 3) := by decide +kernel
theorem dL_act_281 : decode cL_act 281 = .ok (.iload_n 1, 1) := by decide +kernel
theorem dL_act_282 : decode cL_act 282 = .ok (.bipush 12, 2) := by decide +kernel
theorem dL_act_284 : decode cL_act 284 = .ok (.ishr, 1) := by decide +kernel
theorem dL_act_285 : decode cL_act 285 = .ok (.iconst 3, 1) := by decide +kernel
theorem dL_act_286 : decode cL_act 286 = .ok (.invokestatic 62, 3) := by decide +kernel
theorem dL_act_289 : decode cL_act 289 = .ok (.iload_n 1, 1) := by decide +kernel
theorem dL_act_290 : decode cL_act 290 = .ok (.bipush 15, 2) := by decide +kernel
theorem dL_act_292 : decode cL_act 292 = .ok (.ishr, 1) := by decide +kernel
theorem dL_act_293 : decode cL_act 293 = .ok (.iconst 3, 1) := by decide +kernel
theorem dL_act_294 : decode cL_act 294 = .ok (.invokestatic 62, 3) := by decide +kernel
theorem dL_act_297 : decode cL_act 297 = .ok (.invokestatic 70, 3) := by decide +kernel
theorem dL_act_300 : decode cL_act 300 = .ok (.ireturn, 1) := by decide +kernel
theorem dL_act_301 : decode cL_act 301 = .ok (.aload_n 0, 1) := by decide +kernel
theorem dL_act_302 : decode cL_act 302 = .ok (.iload_n 3, 1) := by decide +kernel
theorem dL_act_303 : decode cL_act 303 = .ok (.ifCond .eq 8, 3) := by decide +kernel
theorem dL_act_306 : decode cL_act 306 = .ok (.iload 4, 2) := by decide +kernel
theorem dL_act_308 : decode cL_act 308 = .ok (.goto 11, 3) := by decide +kernel
theorem dL_act_311 : decode cL_act 311 = .ok (.iload_n 1, 1) := by decide +kernel
theorem dL_act_312 : decode cL_act 312 = .ok (.bipush 9, 2) := by decide +kernel
theorem dL_act_314 : decode cL_act 314 = .ok (.ishr, 1) := by decide +kernel
theorem dL_act_315 : decode cL_act 315 = .ok (.iconst 5, 1) := by decide +kernel
theorem dL_act_316 : decode cL_act 316 = .ok (.invokestatic 62, 3) := by decide +kernel
theorem dL_act_319 : decode cL_act 319 = .ok (.iload_n 3, 1) := by decide +kernel
theorem dL_act_320 : decode cL_act 320 = .ok (.ifCond .eq 8, 3) := by decide +kernel
theorem dL_act_323 : decode cL_act 323 = .ok (.iload 5, 2) := by decide +kernel
theorem dL_act_325 : decode cL_act 325 = .ok (.goto 11, 3) := by decide +kernel
theorem dL_act_328 : decode cL_act 328 = .ok (.iload_n 1, 1) := by decide +kernel
theorem dL_act_329 : decode cL_act 329 = .ok (.bipush 6, 2) := by decide +kernel
theorem dL_act_331 : decode cL_act 331 = .ok (.ishr, 1) := by decide +kernel
theorem dL_act_332 : decode cL_act 332 = .ok (.iconst 3, 1) := by decide +kernel
theorem dL_act_333 : decode cL_act 333 = .ok (.invokestatic 62, 3) := by decide +kernel
theorem dL_act_336 : decode cL_act 336 = .ok (.iload_n 1, 1) := by decide +kernel
theorem dL_act_337 : decode cL_act 337 = .ok (.bipush 16, 2) := by decide +kernel
theorem dL_act_339 : decode cL_act 339 = .ok (.ishr, 1) := by decide +kernel
theorem dL_act_340 : decode cL_act 340 = .ok (.iconst 1, 1) := by decide +kernel
theorem dL_act_341 : decode cL_act 341 = .ok (.iand, 1) := by decide +kernel
theorem dL_act_342 : decode cL_act 342 = .ok (.iconst 1, 1) := by decide +kernel
theorem dL_act_343 : decode cL_act 343 = .ok (.if_icmp .ne 7, 3) := by decide +kernel
theorem dL_act_346 : decode cL_act 346 = .ok (.iconst 1, 1) := by decide +kernel
theorem dL_act_347 : decode cL_act 347 = .ok (.goto 4, 3) := by decide +kernel
theorem dL_act_350 : decode cL_act 350 = .ok (.iconst 0, 1) := by decide +kernel
theorem dL_act_351 : decode cL_act 351 = .ok (.invokestatic 73, 3) := by decide +kernel
theorem dL_act_354 : decode cL_act 354 = .ok (.ireturn, 1) := by decide +kernel
theorem dL_act_355 : decode cL_act 355 = .ok (.aload_n 0, 1) := by decide +kernel
theorem dL_act_356 : decode cL_act 356 = .ok (.iload_n 3, 1) := by decide +kernel
theorem dL_act_357 : decode cL_act 357 = .ok (.ifCond .eq 8, 3) := by decide +kernel
theorem dL_act_360 : decode cL_act 360 = .ok (.iload 5, 2) := by decide +kernel
theorem dL_act_362 : decode cL_act 362 = .ok (.goto 11, 3) := by decide +kernel
theorem dL_act_365 : decode cL_act 365 = .ok (.iload_n 1, 1) := by decide +kernel
theorem dL_act_366 : decode cL_act 366 = .ok (.bipush 6, 2) := by decide +kernel
theorem dL_act_368 : decode cL_act 368 = .ok (.ishr, 1) := by decide +kernel
theorem dL_act_369 : decode cL_act 369 = .ok (.iconst 2, 1) := by decide +kernel
theorem dL_act_370 : decode cL_act 370 = .ok (.invokestatic 62, 3) := by decide +kernel
theorem dL_act_373 : decode cL_act 373 = .ok (.iload_n 3, 1) := by decide +kernel
theorem dL_act_374 : decode cL_act 374 = .ok (.ifCond .eq 7, 3) := by decide +kernel
theorem dL_act_377 : decode cL_act 377 = .ok (.iload_n 1, 1) := by decide +kernel
theorem dL_act_378 : decode cL_act 378 = .ok (.goto 13, 3) := by decide +kernel
theorem dL_act_381 : decode cL_act 381 = .ok (.iload_n 1, 1) := by decide +kernel
theorem dL_act_382 : decode cL_act 382 = .ok (.bipush 9, 2) := by decide +kernel
theorem dL_act_384 : decode cL_act 384 = .ok (.ishr, 1) := by decide +kernel
theorem dL_act_385 : decode cL_act 385 = .ok (.sipush 1000, 3) := by decide +kernel
theorem dL_act_388 : decode cL_act 388 = .ok (.invokestatic 62, 3) := by decide +kernel
theorem dL_act_391 : decode cL_act 391 = .ok (.invokestatic 76, 3) := by decide +kernel
theorem dL_act_394 : decode cL_act 394 = .ok (.ireturn, 1) := by decide +kernel
theorem dL_act_395 : decode cL_act 395 = .ok (.iload_n 2, 1) := by decide +kernel
theorem dL_act_396 : decode cL_act 396 = .ok (.bipush 9, 2) := by decide +kernel
theorem dL_act_398 : decode cL_act 398 = .ok (.irem, 1) := by decide +kernel
theorem dL_act_399 : decode cL_act 399 = .ok (.ifCond .ne 27, 3) := by decide +kernel
theorem dL_act_402 : decode cL_act 402 = .ok (.aload_n 0, 1) := by decide +kernel
theorem dL_act_403 : decode cL_act 403 = .ok (.iload_n 3, 1) := by decide +kernel
theorem dL_act_404 : decode cL_act 404 = .ok (.ifCond .eq 8, 3) := by decide +kernel
theorem dL_act_407 : decode cL_act 407 = .ok (.iload 5, 2) := by decide +kernel
theorem dL_act_409 : decode cL_act 409 = .ok (.goto 11, 3) := by decide +kernel
theorem dL_act_412 : decode cL_act 412 = .ok (.iload_n 1, 1) := by decide +kernel
theorem dL_act_413 : decode cL_act 413 = .ok (.bipush 6, 2) := by decide +kernel
theorem dL_act_415 : decode cL_act 415 = .ok (.ishr, 1) := by decide +kernel
theorem dL_act_416 : decode cL_act 416 = .ok (.iconst 2, 1) := by decide +kernel
theorem dL_act_417 : decode cL_act 417 = .ok (.invokestatic 62, 3) := by decide +kernel
theorem dL_act_420 : decode cL_act 420 = .ok (.invokestatic 78, 3) := by decide +kernel
theorem dL_act_423 : decode cL_act 423 = .ok (.goto 7, 3) := by decide +kernel
theorem dL_act_426 : decode cL_act 426 = .ok (.aload_n 0, 1) := by decide +kernel
theorem dL_act_427 : decode cL_act 427 = .ok (.invokevirtual 81, 3) := by decide +kernel
theorem dL_act_430 : decode cL_act 430 = .ok (.ireturn, 1) := by decide +kernel
theorem dL_act_431 : decode cL_act 431 = .ok (.iload_n 1, 1) := by decide +kernel
theorem dL_act_432 : decode cL_act 432 = .ok (.iconst 4, 1) := by decide +kernel
theorem dL_act_433 : decode cL_act 433 = .ok (.ishr, 1) := by decide +kernel
theorem dL_act_434 : decode cL_act 434 = .ok (.iconst 4, 1) := by decide +kernel
theorem dL_act_435 : decode cL_act 435 = .ok (.invokestatic 62, 3) := by decide +kernel
theorem dL_act_438 : decode cL_act 438 = .ok (.ifCond .le 51, 3) := by decide +kernel
theorem dL_act_441 : decode cL_act 441 = .ok (.aload_n 0, 1) := by decide +kernel
theorem dL_act_442 : decode cL_act 442 = .ok (.invokevirtual 81, 3) := by decide +kernel
theorem dL_act_445 : decode cL_act 445 = .ok (.ifCond .le 44, 3) := by decide +kernel
theorem dL_act_448 : decode cL_act 448 = .ok (.aload_n 0, 1) := by decide +kernel
theorem dL_act_449 : decode cL_act 449 = .ok (.iload_n 1, 1) := by decide +kernel
theorem dL_act_450 : decode cL_act 450 = .ok (.bipush 9, 2) := by decide +kernel
theorem dL_act_452 : decode cL_act 452 = .ok (.ishr, 1) := by decide +kernel
theorem dL_act_453 : decode cL_act 453 = .ok (.aload_n 0, 1) := by decide +kernel
theorem dL_act_454 : decode cL_act 454 = .ok (.invokevirtual 81, 3) := by decide +kernel
theorem dL_act_457 : decode cL_act 457 = .ok (.invokestatic 62, 3) := by decide +kernel
theorem dL_act_460 : decode cL_act 460 = .ok (.invokevirtual 41, 3) := by decide +kernel
theorem dL_act_463 : decode cL_act 463 = .ok (.istore 6, 2) := by decide +kernel
theorem dL_act_465 : decode cL_act 465 = .ok (.aload_n 0, 1) := by decide +kernel
theorem dL_act_466 : decode cL_act 466 = .ok (.iload 6, 2) := by decide +kernel
theorem dL_act_468 : decode cL_act 468 = .ok (.sipush 1000, 3) := by decide +kernel
theorem dL_act_471 : decode cL_act 471 = .ok (.idiv, 1) := by decide +kernel
theorem dL_act_472 : decode cL_act 472 = .ok (.iload 6, 2) := by decide +kernel
theorem dL_act_474 : decode cL_act 474 = .ok (.bipush 100, 2) := by decide +kernel
theorem dL_act_476 : decode cL_act 476 = .ok (.idiv, 1) := by decide +kernel
theorem dL_act_477 : decode cL_act 477 = .ok (.bipush 10, 2) := by decide +kernel
theorem dL_act_479 : decode cL_act 479 = .ok (.irem, 1) := by decide +kernel
theorem dL_act_480 : decode cL_act 480 = .ok (.iload 6, 2) := by decide +kernel
theorem dL_act_482 : decode cL_act 482 = .ok (.bipush 100, 2) := by decide +kernel
theorem dL_act_484 : decode cL_act 484 = .ok (.irem, 1) := by decide +kernel
theorem dL_act_485 : decode cL_act 485 = .ok (.invokestatic 85, 3) := by decide +kernel
theorem dL_act_488 : decode cL_act 488 = .ok (.ireturn, 1) := by decide +kernel
theorem dL_act_489 : decode cL_act 489 = .ok (.aload_n 0, 1) := by decide +kernel
theorem dL_act_490 : decode cL_act 490 = .ok (.iload_n 3, 1) := by decide +kernel
theorem dL_act_491 : decode cL_act 491 = .ok (.ifCond .eq 8, 3) := by decide +kernel
theorem dL_act_494 : decode cL_act 494 = .ok (.iload 5, 2) := by decide +kernel
theorem dL_act_496 : decode cL_act 496 = .ok (.goto 12, 3) := by decide +kernel
theorem dL_act_499 : decode cL_act 499 = .ok (.iload_n 1, 1) := by decide +kernel
theorem dL_act_500 : decode cL_act 500 = .ok (.bipush 6, 2) := by decide +kernel
theorem dL_act_502 : decode cL_act 502 = .ok (.ishr, 1) := by decide +kernel
theorem dL_act_503 : decode cL_act 503 = .ok (.bipush 10, 2) := by decide +kernel
theorem dL_act_505 : decode cL_act 505 = .ok (.invokestatic 62, 3) := by decide +kernel
theorem dL_act_508 : decode cL_act 508 = .ok (.iload_n 3, 1) := by decide +kernel
theorem dL_act_509 : decode cL_act 509 = .ok (.ifCond .eq 8, 3) := by decide +kernel
theorem dL_act_512 : decode cL_act 512 = .ok (.iload 4, 2) := by decide +kernel
theorem dL_act_514 : decode cL_act 514 = .ok (.goto 12, 3) := by decide +kernel
theorem dL_act_517 : decode cL_act 517 = .ok (.iload_n 1, 1) := by decide +kernel
theorem dL_act_518 : decode cL_act 518 = .ok (.bipush 9, 2) := by decide +kernel
theorem dL_act_520 : decode cL_act 520 = .ok (.ishr, 1) := by decide +kernel
theorem dL_act_521 : decode cL_act 521 = .ok (.bipush 9, 2) := by decide +kernel
theorem dL_act_523 : decode cL_act 523 = .ok (.invokestatic 62, 3) := by decide +kernel
theorem dL_act_526 : decode cL_act 526 = .ok (.iload_n 3, 1) := by decide +kernel
theorem dL_act_527 : decode cL_act 527 = .ok (.ifCond .eq 9, 3) := by decide +kernel
theorem dL_act_530 : decode cL_act 530 = .ok (.iload_n 1, 1) := by decide +kernel
theorem dL_act_531 : decode cL_act 531 = .ok (.iconst 3, 1) := by decide +kernel
theorem dL_act_532 : decode cL_act 532 = .ok (.ishr, 1) := by decide +kernel
theorem dL_act_533 : decode cL_act 533 = .ok (.goto 13, 3) := by decide +kernel
theorem dL_act_536 : decode cL_act 536 = .ok (.iconst 1, 1) := by decide +kernel
theorem dL_act_537 : decode cL_act 537 = .ok (.iload_n 1, 1) := by decide +kernel
theorem dL_act_538 : decode cL_act 538 = .ok (.bipush 12, 2) := by decide +kernel
theorem dL_act_540 : decode cL_act 540 = .ok (.ishr, 1) := by decide +kernel
theorem dL_act_541 : decode cL_act 541 = .ok (.iconst 3, 1) := by decide +kernel
theorem dL_act_542 : decode cL_act 542 = .ok (.invokestatic 62, 3) := by decide +kernel
theorem dL_act_545 : decode cL_act 545 = .ok (.iadd, 1) := by decide +kernel
theorem dL_act_546 : decode cL_act 546 = .ok (.invokestatic 85, 3) := by decide +kernel
theorem dL_act_549 : decode cL_act 549 = .ok (.ireturn, 1) := by decide +kernel
theorem dL_act_550 : decode cL_act 550 = .ok (.aload_n 0, 1) := by decide +kernel
theorem dL_act_551 : decode cL_act 551 = .ok (.iload_n 3, 1) := by decide +kernel
theorem dL_act_552 : decode cL_act 552 = .ok (.ifCond .eq 8, 3) := by decide +kernel
theorem dL_act_555 : decode cL_act 555 = .ok (.iload 4, 2) := by decide +kernel
theorem dL_act_557 : decode cL_act 557 = .ok (.goto 13, 3) := by decide +kernel
theorem dL_act_560 : decode cL_act 560 = .ok (.iconst 1, 1) := by decide +kernel
theorem dL_act_561 : decode cL_act 561 = .ok (.iload_n 1, 1) := by decide +kernel
theorem dL_act_562 : decode cL_act 562 = .ok (.bipush 9, 2) := by decide +kernel
theorem dL_act_564 : decode cL_act 564 = .ok (.ishr, 1) := by decide +kernel
theorem dL_act_565 : decode cL_act 565 = .ok (.iconst 3, 1) := by decide +kernel
theorem dL_act_566 : decode cL_act 566 = .ok (.invokestatic 62, 3) := by decide +kernel
theorem dL_act_569 : decode cL_act 569 = .ok (.iadd, 1) := by decide +kernel
theorem dL_act_570 : decode cL_act 570 = .ok (.invokestatic 88, 3) := by decide +kernel
theorem dL_act_573 : decode cL_act 573 = .ok (.ireturn, 1) := by decide +kernel
theorem dL_act_574 : decode cL_act 574 = .ok (.aload_n 0, 1) := by decide +kernel
theorem dL_act_575 : decode cL_act 575 = .ok (.invokevirtual 90, 3) := by decide +kernel
theorem dL_act_578 : decode cL_act 578 = .ok (.ireturn, 1) := by decide +kernel
theorem dL_act_579 : decode cL_act 579 = .ok (.aload_n 0, 1) := by decide +kernel
theorem dL_act_580 : decode cL_act 580 = .ok (.iload_n 3, 1) := by decide +kernel
theorem dL_act_581 : decode cL_act 581 = .ok (.ifCond .eq 8, 3) := by decide +kernel
theorem dL_act_584 : decode cL_act 584 = .ok (.iload 4, 2) := by decide +kernel
theorem dL_act_586 : decode cL_act 586 = .ok (.goto 12, 3) := by decide +kernel
theorem dL_act_589 : decode cL_act 589 = .ok (.iload_n 1, 1) := by decide +kernel
theorem dL_act_590 : decode cL_act 590 = .ok (.bipush 9, 2) := by decide +kernel
theorem dL_act_592 : decode cL_act 592 = .ok (.ishr, 1) := by decide +kernel
theorem dL_act_593 : decode cL_act 593 = .ok (.bipush 12, 2) := by decide +kernel
theorem dL_act_595 : decode cL_act 595 = .ok (.invokestatic 62, 3) := by decide +kernel
theorem dL_act_598 : decode cL_act 598 = .ok (.invokestatic 93, 3) := by decide +kernel
theorem dL_act_601 : decode cL_act 601 = .ok (.ireturn, 1) := by decide +kernel
theorem dL_act_602 : decode cL_act 602 = .ok (.iload_n 2, 1) := by decide +kernel
theorem dL_act_603 : decode cL_act 603 = .ok (.bipush 7, 2) := by decide +kernel
theorem dL_act_605 : decode cL_act 605 = .ok (.irem, 1) := by decide +kernel
theorem dL_act_606 : decode cL_act 606 = .ok (.ifCond .ne 30, 3) := by decide +kernel
theorem dL_act_609 : decode cL_act 609 = .ok (.aload_n 0, 1) := by decide +kernel
theorem dL_act_610 : decode cL_act 610 = .ok (.iload_n 3, 1) := by decide +kernel
theorem dL_act_611 : decode cL_act 611 = .ok (.ifCond .eq 8, 3) := by decide +kernel
theorem dL_act_614 : decode cL_act 614 = .ok (.iload 4, 2) := by decide +kernel
theorem dL_act_616 : decode cL_act 616 = .ok (.goto 14, 3) := by decide +kernel
theorem dL_act_619 : decode cL_act 619 = .ok (.iconst 1, 1) := by decide +kernel
theorem dL_act_620 : decode cL_act 620 = .ok (.iload_n 1, 1) := by decide +kernel
theorem dL_act_621 : decode cL_act 621 = .ok (.bipush 9, 2) := by decide +kernel
theorem dL_act_623 : decode cL_act 623 = .ok (.ishr, 1) := by decide +kernel
theorem dL_act_624 : decode cL_act 624 = .ok (.bipush 40, 2) := by decide +kernel
theorem dL_act_626 : decode cL_act 626 = .ok (.invokestatic 62, 3) := by decide +kernel
theorem dL_act_629 : decode cL_act 629 = .ok (.iadd, 1) := by decide +kernel
theorem dL_act_630 : decode cL_act 630 = .ok (.invokestatic 95, 3) := by decide +kernel
theorem dL_act_633 : decode cL_act 633 = .ok (.goto 7, 3) := by decide +kernel
theorem dL_act_636 : decode cL_act 636 = .ok (.aload_n 0, 1) := by decide +kernel
theorem dL_act_637 : decode cL_act 637 = .ok (.invokevirtual 81, 3) := by decide +kernel
theorem dL_act_640 : decode cL_act 640 = .ok (.ireturn, 1) := by decide +kernel
theorem dL_act_641 : decode cL_act 641 = .ok (.iload_n 2, 1) := by decide +kernel
theorem dL_act_642 : decode cL_act 642 = .ok (.bipush 7, 2) := by decide +kernel
theorem dL_act_644 : decode cL_act 644 = .ok (.irem, 1) := by decide +kernel
theorem dL_act_645 : decode cL_act 645 = .ok (.ifCond .ne 30, 3) := by decide +kernel
theorem dL_act_648 : decode cL_act 648 = .ok (.aload_n 0, 1) := by decide +kernel
theorem dL_act_649 : decode cL_act 649 = .ok (.iload_n 3, 1) := by decide +kernel
theorem dL_act_650 : decode cL_act 650 = .ok (.ifCond .eq 8, 3) := by decide +kernel
theorem dL_act_653 : decode cL_act 653 = .ok (.iload 4, 2) := by decide +kernel
theorem dL_act_655 : decode cL_act 655 = .ok (.goto 14, 3) := by decide +kernel
theorem dL_act_658 : decode cL_act 658 = .ok (.iconst 1, 1) := by decide +kernel
theorem dL_act_659 : decode cL_act 659 = .ok (.iload_n 1, 1) := by decide +kernel
theorem dL_act_660 : decode cL_act 660 = .ok (.bipush 9, 2) := by decide +kernel
theorem dL_act_662 : decode cL_act 662 = .ok (.ishr, 1) := by decide +kernel
theorem dL_act_663 : decode cL_act 663 = .ok (.bipush 40, 2) := by decide +kernel
theorem dL_act_665 : decode cL_act 665 = .ok (.invokestatic 62, 3) := by decide +kernel
theorem dL_act_668 : decode cL_act 668 = .ok (.iadd, 1) := by decide +kernel
theorem dL_act_669 : decode cL_act 669 = .ok (.invokestatic 97, 3) := by decide +kernel
theorem dL_act_672 : decode cL_act 672 = .ok (.goto 8, 3) := by decide +kernel
theorem dL_act_675 : decode cL_act 675 = .ok (.aload_n 0, 1) := by decide +kernel
theorem dL_act_676 : decode cL_act 676 = .ok (.iconst 3, 1) := by decide +kernel
theorem dL_act_677 : decode cL_act 677 = .ok (.invokestatic 99, 3) := by decide +kernel
theorem dL_act_680 : decode cL_act 680 = .ok (.ireturn, 1) := by decide +kernel
theorem dL_act_681 : decode cL_act 681 = .ok (.iload_n 2, 1) := by decide +kernel
theorem dL_act_682 : decode cL_act 682 = .ok (.bipush 11, 2) := by decide +kernel
theorem dL_act_684 : decode cL_act 684 = .ok (.irem, 1) := by decide +kernel
theorem dL_act_685 : decode cL_act 685 = .ok (.ifCond .ne 66, 3) := by decide +kernel
theorem dL_act_688 : decode cL_act 688 = .ok (.aload_n 0, 1) := by decide +kernel
theorem dL_act_689 : decode cL_act 689 = .ok (.iload_n 3, 1) := by decide +kernel
theorem dL_act_690 : decode cL_act 690 = .ok (.ifCond .eq 8, 3) := by decide +kernel
theorem dL_act_693 : decode cL_act 693 = .ok (.iload 5, 2) := by decide +kernel
theorem dL_act_695 : decode cL_act 695 = .ok (.goto 11, 3) := by decide +kernel
theorem dL_act_698 : decode cL_act 698 = .ok (.iload_n 1, 1) := by decide +kernel
theorem dL_act_699 : decode cL_act 699 = .ok (.bipush 6, 2) := by decide +kernel
theorem dL_act_701 : decode cL_act 701 = .ok (.ishr, 1) := by decide +kernel
theorem dL_act_702 : decode cL_act 702 = .ok (.iconst 2, 1) := by decide +kernel
theorem dL_act_703 : decode cL_act 703 = .ok (.invokestatic 62, 3) := by decide +kernel
theorem dL_act_706 : decode cL_act 706 = .ok (.iload_n 1, 1) := by decide +kernel
theorem dL_act_707 : decode cL_act 707 = .ok (.bipush 9, 2) := by decide +kernel
theorem dL_act_709 : decode cL_act 709 = .ok (.ishr, 1) := by decide +kernel
theorem dL_act_710 : decode cL_act 710 = .ok (.sipush 300, 3) := by decide +kernel
theorem dL_act_713 : decode cL_act 713 = .ok (.invokestatic 62, 3) := by decide +kernel
theorem dL_act_716 : decode cL_act 716 = .ok (.iload_n 3, 1) := by decide +kernel
theorem dL_act_717 : decode cL_act 717 = .ok (.ifCond .eq 8, 3) := by decide +kernel
theorem dL_act_720 : decode cL_act 720 = .ok (.iload 4, 2) := by decide +kernel
theorem dL_act_722 : decode cL_act 722 = .ok (.goto 13, 3) := by decide +kernel
theorem dL_act_725 : decode cL_act 725 = .ok (.iconst 1, 1) := by decide +kernel
theorem dL_act_726 : decode cL_act 726 = .ok (.iload_n 1, 1) := by decide +kernel
theorem dL_act_727 : decode cL_act 727 = .ok (.bipush 7, 2) := by decide +kernel
theorem dL_act_729 : decode cL_act 729 = .ok (.ishr, 1) := by decide +kernel
theorem dL_act_730 : decode cL_act 730 = .ok (.iconst 2, 1) := by decide +kernel
theorem dL_act_731 : decode cL_act 731 = .ok (.invokestatic 62, 3) := by decide +kernel
theorem dL_act_734 : decode cL_act 734 = .ok (.iadd, 1) := by decide +kernel
theorem dL_act_735 : decode cL_act 735 = .ok (.iconst 1, 1) := by decide +kernel
theorem dL_act_736 : decode cL_act 736 = .ok (.iload_n 1, 1) := by decide +kernel
theorem dL_act_737 : decode cL_act 737 = .ok (.iconst 3, 1) := by decide +kernel
theorem dL_act_738 : decode cL_act 738 = .ok (.ishr, 1) := by decide +kernel
theorem dL_act_739 : decode cL_act 739 = .ok (.bipush 30, 2) := by decide +kernel
theorem dL_act_741 : decode cL_act 741 = .ok (.invokestatic 62, 3) := by decide +kernel
theorem dL_act_744 : decode cL_act 744 = .ok (.iadd, 1) := by decide +kernel
theorem dL_act_745 : decode cL_act 745 = .ok (.invokestatic 101, 3) := by decide +kernel
theorem dL_act_748 : decode cL_act 748 = .ok (.goto 8, 3) := by decide +kernel
theorem dL_act_751 : decode cL_act 751 = .ok (.aload_n 0, 1) := by decide +kernel
theorem dL_act_752 : decode cL_act 752 = .ok (.iconst 5, 1) := by decide +kernel
theorem dL_act_753 : decode cL_act 753 = .ok (.invokestatic 99, 3) := by decide +kernel
theorem dL_act_756 : decode cL_act 756 = .ok (.ireturn, 1) := by decide +kernel
theorem dL_act_757 : decode cL_act 757 = .ok (.aload_n 0, 1) := by decide +kernel
theorem dL_act_758 : decode cL_act 758 = .ok (.iload_n 3, 1) := by decide +kernel
theorem dL_act_759 : decode cL_act 759 = .ok (.ifCond .eq 8, 3) := by decide +kernel
theorem dL_act_762 : decode cL_act 762 = .ok (.iload 5, 2) := by decide +kernel
theorem dL_act_764 : decode cL_act 764 = .ok (.goto 12, 3) := by decide +kernel
theorem dL_act_767 : decode cL_act 767 = .ok (.iload_n 1, 1) := by decide +kernel
theorem dL_act_768 : decode cL_act 768 = .ok (.bipush 6, 2) := by decide +kernel
theorem dL_act_770 : decode cL_act 770 = .ok (.ishr, 1) := by decide +kernel
theorem dL_act_771 : decode cL_act 771 = .ok (.bipush 10, 2) := by decide +kernel
theorem dL_act_773 : decode cL_act 773 = .ok (.invokestatic 62, 3) := by decide +kernel
theorem dL_act_776 : decode cL_act 776 = .ok (.iload_n 3, 1) := by decide +kernel
theorem dL_act_777 : decode cL_act 777 = .ok (.ifCond .eq 8, 3) := by decide +kernel
theorem dL_act_780 : decode cL_act 780 = .ok (.iload 4, 2) := by decide +kernel
theorem dL_act_782 : decode cL_act 782 = .ok (.goto 11, 3) := by decide +kernel
theorem dL_act_785 : decode cL_act 785 = .ok (.iload_n 1, 1) := by decide +kernel
theorem dL_act_786 : decode cL_act 786 = .ok (.bipush 9, 2) := by decide +kernel
theorem dL_act_788 : decode cL_act 788 = .ok (.ishr, 1) := by decide +kernel
theorem dL_act_789 : decode cL_act 789 = .ok (.iconst 5, 1) := by decide +kernel
theorem dL_act_790 : decode cL_act 790 = .ok (.invokestatic 62, 3) := by decide +kernel
theorem dL_act_793 : decode cL_act 793 = .ok (.invokestatic 103, 3) := by decide +kernel
theorem dL_act_796 : decode cL_act 796 = .ok (.ireturn, 1) := by decide +kernel
theorem dL_act_797 : decode cL_act 797 = .ok (.aload_n 0, 1) := by decide +kernel
theorem dL_act_798 : decode cL_act 798 = .ok (.iload_n 3, 1) := by decide +kernel
theorem dL_act_799 : decode cL_act 799 = .ok (.ifCond .eq 8, 3) := by decide +kernel
theorem dL_act_802 : decode cL_act 802 = .ok (.iload 4, 2) := by decide +kernel
theorem dL_act_804 : decode cL_act 804 = .ok (.goto 12, 3) := by decide +kernel
theorem dL_act_807 : decode cL_act 807 = .ok (.iload_n 1, 1) := by decide +kernel
theorem dL_act_808 : decode cL_act 808 = .ok (.bipush 9, 2) := by decide +kernel
theorem dL_act_810 : decode cL_act 810 = .ok (.ishr, 1) := by decide +kernel
theorem dL_act_811 : decode cL_act 811 = .ok (.bipush 8, 2) := by decide +kernel
theorem dL_act_813 : decode cL_act 813 = .ok (.invokestatic 62, 3) := by decide +kernel
theorem dL_act_816 : decode cL_act 816 = .ok (.invokestatic 99, 3) := by decide +kernel
theorem dL_act_819 : decode cL_act 819 = .ok (.ireturn, 1) := by decide +kernel
theorem dL_areAlike_0 : decode cL_areAlike 0 = .ok (.aload_n 0, 1) := by decide +kernel
theorem dL_areAlike_1 : decode cL_areAlike 1 = .ok (.invokevirtual 81, 3) := by decide +kernel
theorem dL_areAlike_4 : decode cL_areAlike 4 = .ok (.aload_n 1, 1) := by decide +kernel
theorem dL_areAlike_5 : decode cL_areAlike 5 = .ok (.invokevirtual 81, 3) := by decide +kernel
theorem dL_areAlike_8 : decode cL_areAlike 8 = .ok (.if_icmp .ne 7, 3) := by decide +kernel
theorem dL_areAlike_11 : decode cL_areAlike 11 = .ok (.iconst 1, 1) := by decide +kernel
theorem dL_areAlike_12 : decode cL_areAlike 12 = .ok (.goto 4, 3) := by decide +kernel
theorem dL_areAlike_15 : decode cL_areAlike 15 = .ok (.iconst 0, 1) := by decide +kernel
theorem dL_areAlike_16 : decode cL_areAlike 16 = .ok (.istore_n 3, 1) := by decide +kernel
theorem dL_areAlike_17 : decode cL_areAlike 17 = .ok (.iconst 0, 1) := by decide +kernel
theorem dL_areAlike_18 : decode cL_areAlike 18 = .ok (.istore 4, 2) := by decide +kernel
theorem dL_areAlike_20 : decode cL_areAlike 20 = .ok (.iload 4, 2) := by decide +kernel
theorem dL_areAlike_22 : decode cL_areAlike 22 = .ok (.bipush 10, 2) := by decide +kernel
theorem dL_areAlike_24 : decode cL_areAlike 24 = .ok (.if_icmp .ge 81, 3) := by decide +kernel
theorem dL_areAlike_27 : decode cL_areAlike 27 = .ok (.iload_n 3, 1) := by decide +kernel
theorem dL_areAlike_28 : decode cL_areAlike 28 = .ok (.ifCond .eq 77, 3) := by decide +kernel
theorem dL_areAlike_31 : decode cL_areAlike 31 = .ok (.aload_n 0, 1) := by decide +kernel
theorem dL_areAlike_32 : decode cL_areAlike 32 = .ok (.iload 4, 2) := by decide +kernel
theorem dL_areAlike_34 : decode cL_areAlike 34 = .ok (.iload_n 2, 1) := by decide +kernel
theorem dL_areAlike_35 : decode cL_areAlike 35 = .ok (.iconst 3, 1) := by decide +kernel
theorem dL_areAlike_36 : decode cL_areAlike 36 = .ok (.invokestatic 62, 3) := by decide +kernel
theorem dL_areAlike_39 : decode cL_areAlike 39 = .ok (.invokestatic 103, 3) := by decide +kernel
theorem dL_areAlike_42 : decode cL_areAlike 42 = .ok (.aload_n 1, 1) := by decide +kernel
theorem dL_areAlike_43 : decode cL_areAlike 43 = .ok (.iload 4, 2) := by decide +kernel
theorem dL_areAlike_45 : decode cL_areAlike 45 = .ok (.iload_n 2, 1) := by decide +kernel
theorem dL_areAlike_46 : decode cL_areAlike 46 = .ok (.iconst 3, 1) := by decide +kernel
theorem dL_areAlike_47 : decode cL_areAlike 47 = .ok (.invokestatic 62, 3) := by decide +kernel
theorem dL_areAlike_50 : decode cL_areAlike 50 = .ok (.invokestatic 103, 3) := by decide +kernel
theorem dL_areAlike_53 : decode cL_areAlike 53 = .ok (.if_icmp .ne 44, 3) := by decide +kernel
theorem dL_areAlike_56 : decode cL_areAlike 56 = .ok (.aload_n 0, 1) := by decide +kernel
theorem dL_areAlike_57 : decode cL_areAlike 57 = .ok (.iload 4, 2) := by decide +kernel
theorem dL_areAlike_59 : decode cL_areAlike 59 = .ok (.invokestatic 93, 3) := by decide +kernel
theorem dL_areAlike_62 : decode cL_areAlike 62 = .ok (.aload_n 1, 1) := by decide +kernel
theorem dL_areAlike_63 : decode cL_areAlike 63 = .ok (.iload 4, 2) := by decide +kernel
theorem dL_areAlike_65 : decode cL_areAlike 65 = .ok (.invokestatic 93, 3) := by decide +kernel
theorem dL_areAlike_68 : decode cL_areAlike 68 = .ok (.if_icmp .ne 29, 3) := by decide +kernel
theorem dL_areAlike_71 : decode cL_areAlike 71 = .ok (.iload 4, 2) := by decide +kernel
theorem dL_areAlike_73 : decode cL_areAlike 73 = .ok (.bipush 7, 2) := by decide +kernel
theorem dL_areAlike_75 : decode cL_areAlike 75 = .ok (.if_icmp .gt 18, 3) := by decide +kernel
theorem dL_areAlike_78 : decode cL_areAlike 78 = .ok (.aload_n 0, 1) := by decide +kernel
theorem dL_areAlike_79 : decode cL_areAlike 79 = .ok (.iload 4, 2) := by decide +kernel
theorem dL_areAlike_81 : decode cL_areAlike 81 = .ok (.invokestatic 99, 3) := by decide +kernel
theorem dL_areAlike_84 : decode cL_areAlike 84 = .ok (.aload_n 1, 1) := by decide +kernel
theorem dL_areAlike_85 : decode cL_areAlike 85 = .ok (.iload 4, 2) := by decide +kernel
theorem dL_areAlike_87 : decode cL_areAlike 87 = .ok (.invokestatic 99, 3) := by decide +kernel
theorem dL_areAlike_90 : decode cL_areAlike 90 = .ok (.if_icmp .ne 7, 3) := by decide +kernel
theorem dL_areAlike_93 : decode cL_areAlike 93 = .ok (.iconst 1, 1) := by decide +kernel
theorem dL_areAlike_94 : decode cL_areAlike 94 = .ok (.goto 4, 3) := by decide +kernel
theorem dL_areAlike_97 : decode cL_areAlike 97 = .ok (.iconst 0, 1) := by decide +kernel
theorem dL_areAlike_98 : decode cL_areAlike 98 = .ok (.istore_n 3, 1) := by decide +kernel
theorem dL_areAlike_99 : decode cL_areAlike 99 = .ok (.iinc 4 1, 3) := by decide +kernel
theorem dL_areAlike_102 : decode cL_areAlike 102 = .ok (.goto (-82), 3) := by decide +kernel
theorem dL_areAlike_105 : decode cL_areAlike 105 = .ok (.iload_n 3, 1) := by decide +kernel
theorem dL_areAlike_106 : decode cL_areAlike 106 = .ok (.ireturn, 1) := by decide +kernel
theorem dL_isSo_0 : decode cL_isSo 0 = .ok (.iconst 0, 1) := by decide +kernel
theorem dL_isSo_1 : decode cL_isSo 1 = .ok (.istore_n 1, 1) := by decide +kernel
theorem dL_isSo_2 : decode cL_isSo 2 = .ok (.iconst 0, 1) := by decide +kernel
theorem dL_isSo_3 : decode cL_isSo 3 = .ok (.istore_n 2, 1) := by decide +kernel
theorem dL_isSo_4 : decode cL_isSo 4 = .ok (.iconst 0, 1) := by decide +kernel
theorem dL_isSo_5 : decode cL_isSo 5 = .ok (.istore_n 3, 1) := by decide +kernel
theorem dL_isSo_6 : decode cL_isSo 6 = .ok (.iconst 1, 1) := by decide +kernel
theorem dL_isSo_7 : decode cL_isSo 7 = .ok (.istore 4, 2) := by decide +kernel
theorem dL_isSo_9 : decode cL_isSo 9 = .ok (.iconst 0, 1) := by decide +kernel
theorem dL_isSo_10 : decode cL_isSo 10 = .ok (.istore 5, 2) := by decide +kernel
theorem dL_isSo_12 : decode cL_isSo 12 = .ok (.iload 5, 2) := by decide +kernel
theorem dL_isSo_14 : decode cL_isSo 14 = .ok (.bipush 10, 2) := by decide +kernel
theorem dL_isSo_16 : decode cL_isSo 16 = .ok (.if_icmp .ge 104, 3) := by decide +kernel
theorem dL_isSo_19 : decode cL_isSo 19 = .ok (.iconst 0, 1) := by decide +kernel
theorem dL_isSo_20 : decode cL_isSo 20 = .ok (.istore 6, 2) := by decide +kernel
theorem dL_isSo_22 : decode cL_isSo 22 = .ok (.iload 6, 2) := by decide +kernel
theorem dL_isSo_24 : decode cL_isSo 24 = .ok (.bipush 16, 2) := by decide +kernel
theorem dL_isSo_26 : decode cL_isSo 26 = .ok (.if_icmp .ge 88, 3) := by decide +kernel
theorem dL_isSo_29 : decode cL_isSo 29 = .ok (.iload 5, 2) := by decide +kernel
theorem dL_isSo_31 : decode cL_isSo 31 = .ok (.bipush 8, 2) := by decide +kernel
theorem dL_isSo_33 : decode cL_isSo 33 = .ok (.if_icmp .eq 81, 3) := by decide +kernel
theorem dL_isSo_36 : decode cL_isSo 36 = .ok (.aload_n 0, 1) := by decide +kernel
theorem dL_isSo_37 : decode cL_isSo 37 = .ok (.iload 5, 2) := by decide +kernel
theorem dL_isSo_39 : decode cL_isSo 39 = .ok (.iload 6, 2) := by decide +kernel
theorem dL_isSo_41 : decode cL_isSo 41 = .ok (.invokevirtual 46, 3) := by decide +kernel
theorem dL_isSo_44 : decode cL_isSo 44 = .ok (.istore 7, 2) := by decide +kernel
theorem dL_isSo_46 : decode cL_isSo 46 = .ok (.iload 7, 2) := by decide +kernel
theorem dL_isSo_48 : decode cL_isSo 48 = .ok (.ifCond .lt 31, 3) := by decide +kernel
theorem dL_isSo_51 : decode cL_isSo 51 = .ok (.iload 4, 2) := by decide +kernel
theorem dL_isSo_53 : decode cL_isSo 53 = .ok (.ifCond .eq 16, 3) := by decide +kernel
theorem dL_isSo_56 : decode cL_isSo 56 = .ok (.iload_n 1, 1) := by decide +kernel
theorem dL_isSo_57 : decode cL_isSo 57 = .ok (.iload 7, 2) := by decide +kernel
theorem dL_isSo_59 : decode cL_isSo 59 = .ok (.ishr, 1) := by decide +kernel
theorem dL_isSo_60 : decode cL_isSo 60 = .ok (.iconst 1, 1) := by decide +kernel
theorem dL_isSo_61 : decode cL_isSo 61 = .ok (.iand, 1) := by decide +kernel
theorem dL_isSo_62 : decode cL_isSo 62 = .ok (.ifCond .ne 7, 3) := by decide +kernel
theorem dL_isSo_65 : decode cL_isSo 65 = .ok (.iconst 1, 1) := by decide +kernel
theorem dL_isSo_66 : decode cL_isSo 66 = .ok (.goto 4, 3) := by decide +kernel
theorem dL_isSo_69 : decode cL_isSo 69 = .ok (.iconst 0, 1) := by decide +kernel
theorem dL_isSo_70 : decode cL_isSo 70 = .ok (.istore 4, 2) := by decide +kernel
theorem dL_isSo_72 : decode cL_isSo 72 = .ok (.iload_n 1, 1) := by decide +kernel
theorem dL_isSo_73 : decode cL_isSo 73 = .ok (.iconst 1, 1) := by decide +kernel
theorem dL_isSo_74 : decode cL_isSo 74 = .ok (.iload 7, 2) := by decide +kernel
theorem dL_isSo_76 : decode cL_isSo 76 = .ok (.ishl, 1) := by decide +kernel
theorem dL_isSo_77 : decode cL_isSo 77 = .ok (.ior, 1) := by decide +kernel
theorem dL_isSo_78 : decode cL_isSo 78 = .ok (.istore_n 1, 1) := by decide +kernel
theorem dL_isSo_79 : decode cL_isSo 79 = .ok (.iload_n 2, 1) := by decide +kernel
theorem dL_isSo_80 : decode cL_isSo 80 = .ok (.iload 7, 2) := by decide +kernel
theorem dL_isSo_82 : decode cL_isSo 82 = .ok (.iconst (-1), 1) := by decide +kernel
theorem dL_isSo_83 : decode cL_isSo 83 = .ok (.if_icmp .ne 7, 3) := by decide +kernel
theorem dL_isSo_86 : decode cL_isSo 86 = .ok (.iconst 0, 1) := by decide +kernel
theorem dL_isSo_87 : decode cL_isSo 87 = .ok (.goto 4, 3) := by decide +kernel
theorem dL_isSo_90 : decode cL_isSo 90 = .ok (.iconst 1, 1) := by decide +kernel
theorem dL_isSo_91 : decode cL_isSo 91 = .ok (.iadd, 1) := by decide +kernel
theorem dL_isSo_92 : decode cL_isSo 92 = .ok (.istore_n 2, 1) := by decide +kernel
theorem dL_isSo_93 : decode cL_isSo 93 = .ok (.iload_n 3, 1) := by decide +kernel
theorem dL_isSo_94 : decode cL_isSo 94 = .ok (.iload 7, 2) := by decide +kernel
theorem dL_isSo_96 : decode cL_isSo 96 = .ok (.bipush (-2), 2) := by decide +kernel
theorem dL_isSo_98 : decode cL_isSo 98 = .ok (.if_icmp .ne 7, 3) := by decide +kernel
theorem dL_isSo_101 : decode cL_isSo 101 = .ok (.iconst 1, 1) := by decide +kernel
theorem dL_isSo_102 : decode cL_isSo 102 = .ok (.goto 4, 3) := by decide +kernel
theorem dL_isSo_105 : decode cL_isSo 105 = .ok (.iconst 0, 1) := by decide +kernel
theorem dL_isSo_106 : decode cL_isSo 106 = .ok (.iadd, 1) := by decide +kernel
theorem dL_isSo_107 : decode cL_isSo 107 = .ok (.istore_n 3, 1) := by decide +kernel
theorem dL_isSo_108 : decode cL_isSo 108 = .ok (.iinc 6 1, 3) := by decide +kernel
theorem dL_isSo_111 : decode cL_isSo 111 = .ok (.goto (-89), 3) := by decide +kernel
theorem dL_isSo_114 : decode cL_isSo 114 = .ok (.iinc 5 1, 3) := by decide +kernel
theorem dL_isSo_117 : decode cL_isSo 117 = .ok (.goto (-105), 3) := by decide +kernel
theorem dL_isSo_120 : decode cL_isSo 120 = .ok (.aload_n 0, 1) := by decide +kernel
theorem dL_isSo_121 : decode cL_isSo 121 = .ok (.invokevirtual 81, 3) := by decide +kernel
theorem dL_isSo_124 : decode cL_isSo 124 = .ok (.istore 5, 2) := by decide +kernel
theorem dL_isSo_126 : decode cL_isSo 126 = .ok (.iconst (-1), 1) := by decide +kernel
theorem dL_isSo_127 : decode cL_isSo 127 = .ok (.istore 6, 2) := by decide +kernel
theorem dL_isSo_129 : decode cL_isSo 129 = .ok (.iconst 0, 1) := by decide +kernel
theorem dL_isSo_130 : decode cL_isSo 130 = .ok (.istore 7, 2) := by decide +kernel
theorem dL_isSo_132 : decode cL_isSo 132 = .ok (.iload 7, 2) := by decide +kernel
theorem dL_isSo_134 : decode cL_isSo 134 = .ok (.iload 5, 2) := by decide +kernel
theorem dL_isSo_136 : decode cL_isSo 136 = .ok (.if_icmp .ge 57, 3) := by decide +kernel
theorem dL_isSo_139 : decode cL_isSo 139 = .ok (.iload 4, 2) := by decide +kernel
theorem dL_isSo_141 : decode cL_isSo 141 = .ok (.ifCond .eq 52, 3) := by decide +kernel
theorem dL_isSo_144 : decode cL_isSo 144 = .ok (.aload_n 0, 1) := by decide +kernel
theorem dL_isSo_145 : decode cL_isSo 145 = .ok (.iload 7, 2) := by decide +kernel
theorem dL_isSo_147 : decode cL_isSo 147 = .ok (.invokevirtual 41, 3) := by decide +kernel
theorem dL_isSo_150 : decode cL_isSo 150 = .ok (.istore 8, 2) := by decide +kernel
theorem dL_isSo_152 : decode cL_isSo 152 = .ok (.iload 8, 2) := by decide +kernel
theorem dL_isSo_154 : decode cL_isSo 154 = .ok (.iload 6, 2) := by decide +kernel
theorem dL_isSo_156 : decode cL_isSo 156 = .ok (.if_icmp .le 24, 3) := by decide +kernel
theorem dL_isSo_159 : decode cL_isSo 159 = .ok (.iload 8, 2) := by decide +kernel
theorem dL_isSo_161 : decode cL_isSo 161 = .ok (.sipush 1000, 3) := by decide +kernel
theorem dL_isSo_164 : decode cL_isSo 164 = .ok (.idiv, 1) := by decide +kernel
theorem dL_isSo_165 : decode cL_isSo 165 = .ok (.iload 8, 2) := by decide +kernel
theorem dL_isSo_167 : decode cL_isSo 167 = .ok (.bipush 100, 2) := by decide +kernel
theorem dL_isSo_169 : decode cL_isSo 169 = .ok (.idiv, 1) := by decide +kernel
theorem dL_isSo_170 : decode cL_isSo 170 = .ok (.bipush 10, 2) := by decide +kernel
theorem dL_isSo_172 : decode cL_isSo 172 = .ok (.irem, 1) := by decide +kernel
theorem dL_isSo_173 : decode cL_isSo 173 = .ok (.if_icmp .eq 7, 3) := by decide +kernel
theorem dL_isSo_176 : decode cL_isSo 176 = .ok (.iconst 1, 1) := by decide +kernel
theorem dL_isSo_177 : decode cL_isSo 177 = .ok (.goto 4, 3) := by decide +kernel
theorem dL_isSo_180 : decode cL_isSo 180 = .ok (.iconst 0, 1) := by decide +kernel
theorem dL_isSo_181 : decode cL_isSo 181 = .ok (.istore 4, 2) := by decide +kernel
theorem dL_isSo_183 : decode cL_isSo 183 = .ok (.iload 8, 2) := by decide +kernel
theorem dL_isSo_185 : decode cL_isSo 185 = .ok (.istore 6, 2) := by decide +kernel
theorem dL_isSo_187 : decode cL_isSo 187 = .ok (.iinc 7 1, 3) := by decide +kernel
theorem dL_isSo_190 : decode cL_isSo 190 = .ok (.goto (-58), 3) := by decide +kernel
theorem dL_isSo_193 : decode cL_isSo 193 = .ok (.iload 4, 2) := by decide +kernel
theorem dL_isSo_195 : decode cL_isSo 195 = .ok (.ifCond .eq 149, 3) := by decide +kernel
theorem dL_isSo_198 : decode cL_isSo 198 = .ok (.iload_n 3, 1) := by decide +kernel
theorem dL_isSo_199 : decode cL_isSo 199 = .ok (.aload_n 0, 1) := by decide +kernel
theorem dL_isSo_200 : decode cL_isSo 200 = .ok (.bipush 7, 2) := by decide +kernel
theorem dL_isSo_202 : decode cL_isSo 202 = .ok (.invokevirtual 49, 3) := by decide +kernel
theorem dL_isSo_205 : decode cL_isSo 205 = .ok (.if_icmp .ne 139, 3) := by decide +kernel
theorem dL_isSo_208 : decode cL_isSo 208 = .ok (.aload_n 0, 1) := by decide +kernel
theorem dL_isSo_209 : decode cL_isSo 209 = .ok (.iload 5, 2) := by decide +kernel
theorem dL_isSo_211 : decode cL_isSo 211 = .ok (.invokevirtual 41, 3) := by decide +kernel
theorem dL_isSo_214 : decode cL_isSo 214 = .ok (.iconst (-1), 1) := by decide +kernel
theorem dL_isSo_215 : decode cL_isSo 215 = .ok (.if_icmp .ne 129, 3) := by decide +kernel
theorem dL_isSo_218 : decode cL_isSo 218 = .ok (.iload_n 2, 1) := by decide +kernel
theorem dL_isSo_219 : decode cL_isSo 219 = .ok (.aload_n 0, 1) := by decide +kernel
theorem dL_isSo_220 : decode cL_isSo 220 = .ok (.iconst 0, 1) := by decide +kernel
theorem dL_isSo_221 : decode cL_isSo 221 = .ok (.invokevirtual 49, 3) := by decide +kernel
theorem dL_isSo_224 : decode cL_isSo 224 = .ok (.iadd, 1) := by decide +kernel
theorem dL_isSo_225 : decode cL_isSo 225 = .ok (.iconst 2, 1) := by decide +kernel
theorem dL_isSo_226 : decode cL_isSo 226 = .ok (.if_icmp .lt 118, 3) := by decide +kernel
theorem dL_isSo_229 : decode cL_isSo 229 = .ok (.iload_n 2, 1) := by decide +kernel
theorem dL_isSo_230 : decode cL_isSo 230 = .ok (.aload_n 0, 1) := by decide +kernel
theorem dL_isSo_231 : decode cL_isSo 231 = .ok (.iconst 0, 1) := by decide +kernel
theorem dL_isSo_232 : decode cL_isSo 232 = .ok (.invokevirtual 49, 3) := by decide +kernel
theorem dL_isSo_235 : decode cL_isSo 235 = .ok (.iadd, 1) := by decide +kernel
theorem dL_isSo_236 : decode cL_isSo 236 = .ok (.bipush 16, 2) := by decide +kernel
theorem dL_isSo_238 : decode cL_isSo 238 = .ok (.if_icmp .gt 106, 3) := by decide +kernel
theorem dL_isSo_241 : decode cL_isSo 241 = .ok (.aload_n 0, 1) := by decide +kernel
theorem dL_isSo_242 : decode cL_isSo 242 = .ok (.iconst 4, 1) := by decide +kernel
theorem dL_isSo_243 : decode cL_isSo 243 = .ok (.invokevirtual 49, 3) := by decide +kernel
theorem dL_isSo_246 : decode cL_isSo 246 = .ok (.iconst 5, 1) := by decide +kernel
theorem dL_isSo_247 : decode cL_isSo 247 = .ok (.aload_n 0, 1) := by decide +kernel
theorem dL_isSo_248 : decode cL_isSo 248 = .ok (.iconst 0, 1) := by decide +kernel
theorem dL_isSo_249 : decode cL_isSo 249 = .ok (.invokevirtual 49, 3) := by decide +kernel
theorem dL_isSo_252 : decode cL_isSo 252 = .ok (.imul, 1) := by decide +kernel
theorem dL_isSo_253 : decode cL_isSo 253 = .ok (.aload_n 0, 1) := by decide +kernel
theorem dL_isSo_254 : decode cL_isSo 254 = .ok (.iconst 1, 1) := by decide +kernel
theorem dL_isSo_255 : decode cL_isSo 255 = .ok (.invokevirtual 49, 3) := by decide +kernel
theorem dL_isSo_258 : decode cL_isSo 258 = .ok (.isub, 1) := by decide +kernel
theorem dL_isSo_259 : decode cL_isSo 259 = .ok (.iconst 2, 1) := by decide +kernel
theorem dL_isSo_260 : decode cL_isSo 260 = .ok (.aload_n 0, 1) := by decide +kernel
theorem dL_isSo_261 : decode cL_isSo 261 = .ok (.iconst 2, 1) := by decide +kernel
theorem dL_isSo_262 : decode cL_isSo 262 = .ok (.invokevirtual 49, 3) := by decide +kernel
theorem dL_isSo_265 : decode cL_isSo 265 = .ok (.imul, 1) := by decide +kernel
theorem dL_isSo_266 : decode cL_isSo 266 = .ok (.isub, 1) := by decide +kernel
theorem dL_isSo_267 : decode cL_isSo 267 = .ok (.if_icmp .ne 77, 3) := by decide +kernel
theorem dL_isSo_270 : decode cL_isSo 270 = .ok (.aload_n 0, 1) := by decide +kernel
theorem dL_isSo_271 : decode cL_isSo 271 = .ok (.bipush 6, 2) := by decide +kernel
theorem dL_isSo_273 : decode cL_isSo 273 = .ok (.invokevirtual 49, 3) := by decide +kernel
theorem dL_isSo_276 : decode cL_isSo 276 = .ok (.iconst 1, 1) := by decide +kernel
theorem dL_isSo_277 : decode cL_isSo 277 = .ok (.if_icmp .ne 7, 3) := by decide +kernel
theorem dL_isSo_280 : decode cL_isSo 280 = .ok (.iconst 1, 1) := by decide +kernel
theorem dL_isSo_281 : decode cL_isSo 281 = .ok (.goto 4, 3) := by decide +kernel
theorem dL_isSo_284 : decode cL_isSo 284 = .ok (.iconst 0, 1) := by decide +kernel
theorem dL_isSo_285 : decode cL_isSo 285 = .ok (.iload_n 2, 1) := by decide +kernel
theorem dL_isSo_286 : decode cL_isSo 286 = .ok (.ifCond .ne 7, 3) := by decide +kernel
theorem dL_isSo_289 : decode cL_isSo 289 = .ok (.iconst 1, 1) := by decide +kernel
theorem dL_isSo_290 : decode cL_isSo 290 = .ok (.goto 4, 3) := by decide +kernel
theorem dL_isSo_293 : decode cL_isSo 293 = .ok (.iconst 0, 1) := by decide +kernel
theorem dL_isSo_294 : decode cL_isSo 294 = .ok (.if_icmp .ne 50, 3) := by decide +kernel
theorem dL_isSo_297 : decode cL_isSo 297 = .ok (.iload_n 2, 1) := by decide +kernel
theorem dL_isSo_298 : decode cL_isSo 298 = .ok (.ifCond .gt 19, 3) := by decide +kernel
theorem dL_isSo_301 : decode cL_isSo 301 = .ok (.aload_n 0, 1) := by decide +kernel
theorem dL_isSo_302 : decode cL_isSo 302 = .ok (.iconst 5, 1) := by decide +kernel
theorem dL_isSo_303 : decode cL_isSo 303 = .ok (.invokevirtual 52, 3) := by decide +kernel
theorem dL_isSo_306 : decode cL_isSo 306 = .ok (.ifCond .ne 38, 3) := by decide +kernel
theorem dL_isSo_309 : decode cL_isSo 309 = .ok (.aload_n 0, 1) := by decide +kernel
theorem dL_isSo_310 : decode cL_isSo 310 = .ok (.invokevirtual 105, 3) := by decide +kernel
theorem dL_isSo_313 : decode cL_isSo 313 = .ok (.iconst (-1), 1) := by decide +kernel
theorem dL_isSo_314 : decode cL_isSo 314 = .ok (.if_icmp .ne 30, 3) := by decide +kernel
theorem dL_isSo_317 : decode cL_isSo 317 = .ok (.aload_n 0, 1) := by decide +kernel
theorem dL_isSo_318 : decode cL_isSo 318 = .ok (.iconst 1, 1) := by decide +kernel
theorem dL_isSo_319 : decode cL_isSo 319 = .ok (.invokevirtual 49, 3) := by decide +kernel
theorem dL_isSo_322 : decode cL_isSo 322 = .ok (.sipush 200, 3) := by decide +kernel
theorem dL_isSo_325 : decode cL_isSo 325 = .ok (.if_icmp .gt 19, 3) := by decide +kernel
theorem dL_isSo_328 : decode cL_isSo 328 = .ok (.aload_n 0, 1) := by decide +kernel
theorem dL_isSo_329 : decode cL_isSo 329 = .ok (.bipush 10, 2) := by decide +kernel
theorem dL_isSo_331 : decode cL_isSo 331 = .ok (.iconst 0, 1) := by decide +kernel
theorem dL_isSo_332 : decode cL_isSo 332 = .ok (.invokestatic 103, 3) := by decide +kernel
theorem dL_isSo_335 : decode cL_isSo 335 = .ok (.ldc 16, 2) := by decide +kernel
theorem dL_isSo_337 : decode cL_isSo 337 = .ok (.if_icmp .ne 7, 3) := by decide +kernel
theorem dL_isSo_340 : decode cL_isSo 340 = .ok (.iconst 1, 1) := by decide +kernel
theorem dL_isSo_341 : decode cL_isSo 341 = .ok (.goto 4, 3) := by decide +kernel
theorem dL_isSo_344 : decode cL_isSo 344 = .ok (.iconst 0, 1) := by decide +kernel
theorem dL_isSo_345 : decode cL_isSo 345 = .ok (.ireturn, 1) := by decide +kernel
theorem dL_isHinted_0 : decode cL_isHinted 0 = .ok (.aload_n 0, 1) := by decide +kernel
theorem dL_isHinted_1 : decode cL_isHinted 1 = .ok (.bipush 100, 2) := by decide +kernel
theorem dL_isHinted_3 : decode cL_isHinted 3 = .ok (.invokevirtual 52, 3) := by decide +kernel
theorem dL_isHinted_6 : decode cL_isHinted 6 = .ok (.istore_n 1, 1) := by decide +kernel
theorem dL_isHinted_7 : decode cL_isHinted 7 = .ok (.aload_n 0, 1) := by decide +kernel
theorem dL_isHinted_8 : decode cL_isHinted 8 = .ok (.invokevirtual 105, 3) := by decide +kernel
theorem dL_isHinted_11 : decode cL_isHinted 11 = .ok (.istore_n 2, 1) := by decide +kernel
theorem dL_isHinted_12 : decode cL_isHinted 12 = .ok (.iload_n 2, 1) := by decide +kernel
theorem dL_isHinted_13 : decode cL_isHinted 13 = .ok (.ifCond .ge 5, 3) := by decide +kernel
theorem dL_isHinted_16 : decode cL_isHinted 16 = .ok (.iconst 1, 1) := by decide +kernel
theorem dL_isHinted_17 : decode cL_isHinted 17 = .ok (.ireturn, 1) := by decide +kernel
theorem dL_isHinted_18 : decode cL_isHinted 18 = .ok (.iload_n 1, 1) := by decide +kernel
theorem dL_isHinted_19 : decode cL_isHinted 19 = .ok (.ifCond .le 53, 3) := by decide +kernel
theorem dL_isHinted_22 : decode cL_isHinted 22 = .ok (.aload_n 0, 1) := by decide +kernel
theorem dL_isHinted_23 : decode cL_isHinted 23 = .ok (.iconst 1, 1) := by decide +kernel
theorem dL_isHinted_24 : decode cL_isHinted 24 = .ok (.invokevirtual 49, 3) := by decide +kernel
theorem dL_isHinted_27 : decode cL_isHinted 27 = .ok (.sipush 200, 3) := by decide +kernel
theorem dL_isHinted_30 : decode cL_isHinted 30 = .ok (.if_icmp .ge 42, 3) := by decide +kernel
theorem dL_isHinted_33 : decode cL_isHinted 33 = .ok (.aload_n 0, 1) := by decide +kernel
theorem dL_isHinted_34 : decode cL_isHinted 34 = .ok (.iload_n 2, 1) := by decide +kernel
theorem dL_isHinted_35 : decode cL_isHinted 35 = .ok (.sipush 1000, 3) := by decide +kernel
theorem dL_isHinted_38 : decode cL_isHinted 38 = .ok (.idiv, 1) := by decide +kernel
theorem dL_isHinted_39 : decode cL_isHinted 39 = .ok (.iload_n 2, 1) := by decide +kernel
theorem dL_isHinted_40 : decode cL_isHinted 40 = .ok (.bipush 100, 2) := by decide +kernel
theorem dL_isHinted_42 : decode cL_isHinted 42 = .ok (.idiv, 1) := by decide +kernel
theorem dL_isHinted_43 : decode cL_isHinted 43 = .ok (.bipush 10, 2) := by decide +kernel
theorem dL_isHinted_45 : decode cL_isHinted 45 = .ok (.irem, 1) := by decide +kernel
theorem dL_isHinted_46 : decode cL_isHinted 46 = .ok (.iload_n 2, 1) := by decide +kernel
theorem dL_isHinted_47 : decode cL_isHinted 47 = .ok (.bipush 100, 2) := by decide +kernel
theorem dL_isHinted_49 : decode cL_isHinted 49 = .ok (.irem, 1) := by decide +kernel
theorem dL_isHinted_50 : decode cL_isHinted 50 = .ok (.invokestatic 85, 3) := by decide +kernel
theorem dL_isHinted_53 : decode cL_isHinted 53 = .ok (.ifCond .lt 19, 3) := by decide +kernel
theorem dL_isHinted_56 : decode cL_isHinted 56 = .ok (.aload_n 0, 1) := by decide +kernel
theorem dL_isHinted_57 : decode cL_isHinted 57 = .ok (.bipush 100, 2) := by decide +kernel
theorem dL_isHinted_59 : decode cL_isHinted 59 = .ok (.invokevirtual 52, 3) := by decide +kernel
theorem dL_isHinted_62 : decode cL_isHinted 62 = .ok (.iload_n 1, 1) := by decide +kernel
theorem dL_isHinted_63 : decode cL_isHinted 63 = .ok (.iconst 1, 1) := by decide +kernel
theorem dL_isHinted_64 : decode cL_isHinted 64 = .ok (.isub, 1) := by decide +kernel
theorem dL_isHinted_65 : decode cL_isHinted 65 = .ok (.if_icmp .ne 7, 3) := by decide +kernel
theorem dL_isHinted_68 : decode cL_isHinted 68 = .ok (.iconst 1, 1) := by decide +kernel
theorem dL_isHinted_69 : decode cL_isHinted 69 = .ok (.goto 4, 3) := by decide +kernel
theorem dL_isHinted_72 : decode cL_isHinted 72 = .ok (.iconst 0, 1) := by decide +kernel
theorem dL_isHinted_73 : decode cL_isHinted 73 = .ok (.istore_n 3, 1) := by decide +kernel
theorem dL_isHinted_74 : decode cL_isHinted 74 = .ok (.iload_n 3, 1) := by decide +kernel
theorem dL_isHinted_75 : decode cL_isHinted 75 = .ok (.ifCond .eq 26, 3) := by decide +kernel
theorem dL_isHinted_78 : decode cL_isHinted 78 = .ok (.aload_n 0, 1) := by decide +kernel
theorem dL_isHinted_79 : decode cL_isHinted 79 = .ok (.iconst 1, 1) := by decide +kernel
theorem dL_isHinted_80 : decode cL_isHinted 80 = .ok (.invokevirtual 38, 3) := by decide +kernel
theorem dL_isHinted_83 : decode cL_isHinted 83 = .ok (.iconst 1, 1) := by decide +kernel
theorem dL_isHinted_84 : decode cL_isHinted 84 = .ok (.if_icmp .ne 17, 3) := by decide +kernel
theorem dL_isHinted_87 : decode cL_isHinted 87 = .ok (.aload_n 0, 1) := by decide +kernel
theorem dL_isHinted_88 : decode cL_isHinted 88 = .ok (.bipush 100, 2) := by decide +kernel
theorem dL_isHinted_90 : decode cL_isHinted 90 = .ok (.invokevirtual 52, 3) := by decide +kernel
theorem dL_isHinted_93 : decode cL_isHinted 93 = .ok (.iload_n 1, 1) := by decide +kernel
theorem dL_isHinted_94 : decode cL_isHinted 94 = .ok (.if_icmp .ne 7, 3) := by decide +kernel
theorem dL_isHinted_97 : decode cL_isHinted 97 = .ok (.iconst 1, 1) := by decide +kernel
theorem dL_isHinted_98 : decode cL_isHinted 98 = .ok (.goto 4, 3) := by decide +kernel
theorem dL_isHinted_101 : decode cL_isHinted 101 = .ok (.iconst 0, 1) := by decide +kernel
theorem dL_isHinted_102 : decode cL_isHinted 102 = .ok (.ireturn, 1) := by decide +kernel
theorem dL_law_0 : decode cL_law 0 = .ok (.new 9, 3) := by decide +kernel
theorem dL_law_3 : decode cL_law 3 = .ok (.dup, 1) := by decide +kernel
theorem dL_law_4 : decode cL_law 4 = .ok (.invokespecial 108, 3) := by decide +kernel
theorem dL_law_7 : decode cL_law 7 = .ok (.astore_n 1, 1) := by decide +kernel
theorem dL_law_8 : decode cL_law 8 = .ok (.new 9, 3) := by decide +kernel
theorem dL_law_11 : decode cL_law 11 = .ok (.dup, 1) := by decide +kernel
theorem dL_law_12 : decode cL_law 12 = .ok (.invokespecial 108, 3) := by decide +kernel
theorem dL_law_15 : decode cL_law 15 = .ok (.astore_n 2, 1) := by decide +kernel
theorem dL_law_16 : decode cL_law 16 = .ok (.iconst 0, 1) := by decide +kernel
theorem dL_law_17 : decode cL_law 17 = .ok (.istore_n 3, 1) := by decide +kernel
theorem dL_law_18 : decode cL_law 18 = .ok (.iload_n 3, 1) := by decide +kernel
theorem dL_law_19 : decode cL_law 19 = .ok (.bipush 90, 2) := by decide +kernel
theorem dL_law_21 : decode cL_law 21 = .ok (.if_icmp .ge 67, 3) := by decide +kernel
theorem dL_law_24 : decode cL_law 24 = .ok (.aload_n 0, 1) := by decide +kernel
theorem dL_law_25 : decode cL_law 25 = .ok (.iload_n 3, 1) := by decide +kernel
theorem dL_law_26 : decode cL_law 26 = .ok (.invokestatic 109, 3) := by decide +kernel
theorem dL_law_29 : decode cL_law 29 = .ok (.istore 4, 2) := by decide +kernel
theorem dL_law_31 : decode cL_law 31 = .ok (.aload_n 1, 1) := by decide +kernel
theorem dL_law_32 : decode cL_law 32 = .ok (.iload 4, 2) := by decide +kernel
theorem dL_law_34 : decode cL_law 34 = .ok (.iload_n 3, 1) := by decide +kernel
theorem dL_law_35 : decode cL_law 35 = .ok (.invokestatic 113, 3) := by decide +kernel
theorem dL_law_38 : decode cL_law 38 = .ok (.istore 5, 2) := by decide +kernel
theorem dL_law_40 : decode cL_law 40 = .ok (.iload 5, 2) := by decide +kernel
theorem dL_law_42 : decode cL_law 42 = .ok (.ldc 16, 2) := by decide +kernel
theorem dL_law_44 : decode cL_law 44 = .ok (.if_icmp .eq 15, 3) := by decide +kernel
theorem dL_law_47 : decode cL_law 47 = .ok (.aload_n 2, 1) := by decide +kernel
theorem dL_law_48 : decode cL_law 48 = .ok (.iload 4, 2) := by decide +kernel
theorem dL_law_50 : decode cL_law 50 = .ok (.iload_n 3, 1) := by decide +kernel
theorem dL_law_51 : decode cL_law 51 = .ok (.invokestatic 113, 3) := by decide +kernel
theorem dL_law_54 : decode cL_law 54 = .ok (.iload 5, 2) := by decide +kernel
theorem dL_law_56 : decode cL_law 56 = .ok (.if_icmp .ne 24, 3) := by decide +kernel
theorem dL_law_59 : decode cL_law 59 = .ok (.iload_n 3, 1) := by decide +kernel
theorem dL_law_60 : decode cL_law 60 = .ok (.bipush 30, 2) := by decide +kernel
theorem dL_law_62 : decode cL_law 62 = .ok (.irem, 1) := by decide +kernel
theorem dL_law_63 : decode cL_law 63 = .ok (.bipush 29, 2) := by decide +kernel
theorem dL_law_65 : decode cL_law 65 = .ok (.if_icmp .ne 17, 3) := by decide +kernel
theorem dL_law_68 : decode cL_law 68 = .ok (.aload_n 1, 1) := by decide +kernel
theorem dL_law_69 : decode cL_law 69 = .ok (.aload_n 2, 1) := by decide +kernel
theorem dL_law_70 : decode cL_law 70 = .ok (.iload 4, 2) := by decide +kernel
theorem dL_law_72 : decode cL_law 72 = .ok (.iconst 3, 1) := by decide +kernel
theorem dL_law_73 : decode cL_law 73 = .ok (.ishr, 1) := by decide +kernel
theorem dL_law_74 : decode cL_law 74 = .ok (.invokestatic 116, 3) := by decide +kernel
theorem dL_law_77 : decode cL_law 77 = .ok (.ifCond .ne 5, 3) := by decide +kernel
theorem dL_law_80 : decode cL_law 80 = .ok (.iconst 0, 1) := by decide +kernel
theorem dL_law_81 : decode cL_law 81 = .ok (.ireturn, 1) := by decide +kernel
theorem dL_law_82 : decode cL_law 82 = .ok (.iinc 3 1, 3) := by decide +kernel
theorem dL_law_85 : decode cL_law 85 = .ok (.goto (-67), 3) := by decide +kernel
theorem dL_law_88 : decode cL_law 88 = .ok (.aload_n 1, 1) := by decide +kernel
theorem dL_law_89 : decode cL_law 89 = .ok (.invokestatic 120, 3) := by decide +kernel
theorem dL_law_92 : decode cL_law 92 = .ok (.ifCond .eq 25, 3) := by decide +kernel
theorem dL_law_95 : decode cL_law 95 = .ok (.aload_n 1, 1) := by decide +kernel
theorem dL_law_96 : decode cL_law 96 = .ok (.iconst 1, 1) := by decide +kernel
theorem dL_law_97 : decode cL_law 97 = .ok (.invokevirtual 49, 3) := by decide +kernel
theorem dL_law_100 : decode cL_law 100 = .ok (.sipush 200, 3) := by decide +kernel
theorem dL_law_103 : decode cL_law 103 = .ok (.if_icmp .eq 10, 3) := by decide +kernel
theorem dL_law_106 : decode cL_law 106 = .ok (.aload_n 1, 1) := by decide +kernel
theorem dL_law_107 : decode cL_law 107 = .ok (.invokestatic 124, 3) := by decide +kernel
theorem dL_law_110 : decode cL_law 110 = .ok (.ifCond .eq 7, 3) := by decide +kernel
theorem dL_law_113 : decode cL_law 113 = .ok (.iconst 1, 1) := by decide +kernel
theorem dL_law_114 : decode cL_law 114 = .ok (.goto 4, 3) := by decide +kernel
theorem dL_law_117 : decode cL_law 117 = .ok (.iconst 0, 1) := by decide +kernel
theorem dL_law_118 : decode cL_law 118 = .ok (.ireturn, 1) := by decide +kernel
