theorem pmX5_init : yX5_init.cls = RX5 ∧ yX5_init.cls ≠ "java/lang/invoke/MethodHandle" ∧ yX5_init.cls ≠ "java/lang/invoke/VarHandle" ∧ (parseMethodDescriptor yX5_init.desc).map (fun d => d.parameters.length) = some 0 := by decide +kernel
theorem pmX5_deck : yX5_deck.cls = RX5 ∧ yX5_deck.cls ≠ "java/lang/invoke/MethodHandle" ∧ yX5_deck.cls ≠ "java/lang/invoke/VarHandle" ∧ (parseMethodDescriptor yX5_deck.desc).map (fun d => d.parameters.length) = some 2 := by decide +kernel
theorem pmX5_table : yX5_table.cls = RX5 ∧ yX5_table.cls ≠ "java/lang/invoke/MethodHandle" ∧ yX5_table.cls ≠ "java/lang/invoke/VarHandle" ∧ (parseMethodDescriptor yX5_table.desc).map (fun d => d.parameters.length) = some 4 := by decide +kernel
theorem pmX5_stock : yX5_stock.cls = RX5 ∧ yX5_stock.cls ≠ "java/lang/invoke/MethodHandle" ∧ yX5_stock.cls ≠ "java/lang/invoke/VarHandle" ∧ (parseMethodDescriptor yX5_stock.desc).map (fun d => d.parameters.length) = some 3 := by decide +kernel
theorem pmX5_deal : yX5_deal.cls = RX5 ∧ yX5_deal.cls ≠ "java/lang/invoke/MethodHandle" ∧ yX5_deal.cls ≠ "java/lang/invoke/VarHandle" ∧ (parseMethodDescriptor yX5_deal.desc).map (fun d => d.parameters.length) = some 2 := by decide +kernel
theorem pmX5_numberOf : yX5_numberOf.cls = RX5 ∧ yX5_numberOf.cls ≠ "java/lang/invoke/MethodHandle" ∧ yX5_numberOf.cls ≠ "java/lang/invoke/VarHandle" ∧ (parseMethodDescriptor yX5_numberOf.desc).map (fun d => d.parameters.length) = some 1 := by decide +kernel
theorem pmX5_move : yX5_move.cls = RX5 ∧ yX5_move.cls ≠ "java/lang/invoke/MethodHandle" ∧ yX5_move.cls ≠ "java/lang/invoke/VarHandle" ∧ (parseMethodDescriptor yX5_move.desc).map (fun d => d.parameters.length) = some 3 := by decide +kernel
theorem pmX5_undo : yX5_undo.cls = RX5 ∧ yX5_undo.cls ≠ "java/lang/invoke/MethodHandle" ∧ yX5_undo.cls ≠ "java/lang/invoke/VarHandle" ∧ (parseMethodDescriptor yX5_undo.desc).map (fun d => d.parameters.length) = some 1 := by decide +kernel
theorem pmX5_safe : yX5_safe.cls = RX5 ∧ yX5_safe.cls ≠ "java/lang/invoke/MethodHandle" ∧ yX5_safe.cls ≠ "java/lang/invoke/VarHandle" ∧ (parseMethodDescriptor yX5_safe.desc).map (fun d => d.parameters.length) = some 0 := by decide +kernel
theorem pmX5_moves : yX5_moves.cls = RX5 ∧ yX5_moves.cls ≠ "java/lang/invoke/MethodHandle" ∧ yX5_moves.cls ≠ "java/lang/invoke/VarHandle" ∧ (parseMethodDescriptor yX5_moves.desc).map (fun d => d.parameters.length) = some 0 := by decide +kernel
theorem pmX5_moveAt : yX5_moveAt.cls = RX5 ∧ yX5_moveAt.cls ≠ "java/lang/invoke/MethodHandle" ∧ yX5_moveAt.cls ≠ "java/lang/invoke/VarHandle" ∧ (parseMethodDescriptor yX5_moveAt.desc).map (fun d => d.parameters.length) = some 1 := by decide +kernel
theorem pmX5_card : yX5_card.cls = RX5 ∧ yX5_card.cls ≠ "java/lang/invoke/MethodHandle" ∧ yX5_card.cls ≠ "java/lang/invoke/VarHandle" ∧ (parseMethodDescriptor yX5_card.desc).map (fun d => d.parameters.length) = some 2 := by decide +kernel
theorem pmX5_told : yX5_told.cls = RX5 ∧ yX5_told.cls ≠ "java/lang/invoke/MethodHandle" ∧ yX5_told.cls ≠ "java/lang/invoke/VarHandle" ∧ (parseMethodDescriptor yX5_told.desc).map (fun d => d.parameters.length) = some 1 := by decide +kernel
theorem pmX5_search : yX5_search.cls = RX5 ∧ yX5_search.cls ≠ "java/lang/invoke/MethodHandle" ∧ yX5_search.cls ≠ "java/lang/invoke/VarHandle" ∧ (parseMethodDescriptor yX5_search.desc).map (fun d => d.parameters.length) = some 1 := by decide +kernel
theorem pmX5_known : yX5_known.cls = RX5 ∧ yX5_known.cls ≠ "java/lang/invoke/MethodHandle" ∧ yX5_known.cls ≠ "java/lang/invoke/VarHandle" ∧ (parseMethodDescriptor yX5_known.desc).map (fun d => d.parameters.length) = some 1 := by decide +kernel
theorem pmX5_hint : yX5_hint.cls = RX5 ∧ yX5_hint.cls ≠ "java/lang/invoke/MethodHandle" ∧ yX5_hint.cls ≠ "java/lang/invoke/VarHandle" ∧ (parseMethodDescriptor yX5_hint.desc).map (fun d => d.parameters.length) = some 0 := by decide +kernel
theorem pmX5_odds : yX5_odds.cls = RX5 ∧ yX5_odds.cls ≠ "java/lang/invoke/MethodHandle" ∧ yX5_odds.cls ≠ "java/lang/invoke/VarHandle" ∧ (parseMethodDescriptor yX5_odds.desc).map (fun d => d.parameters.length) = some 4 := by decide +kernel
theorem pmX5_dealNumber : yX5_dealNumber.cls = RX5 ∧ yX5_dealNumber.cls ≠ "java/lang/invoke/MethodHandle" ∧ yX5_dealNumber.cls ≠ "java/lang/invoke/VarHandle" ∧ (parseMethodDescriptor yX5_dealNumber.desc).map (fun d => d.parameters.length) = some 2 := by decide +kernel
theorem pmX5_doMove : yX5_doMove.cls = RX5 ∧ yX5_doMove.cls ≠ "java/lang/invoke/MethodHandle" ∧ yX5_doMove.cls ≠ "java/lang/invoke/VarHandle" ∧ (parseMethodDescriptor yX5_doMove.desc).map (fun d => d.parameters.length) = some 3 := by decide +kernel
theorem pmX5_moneyOfDeal : yX5_moneyOfDeal.cls = RX5 ∧ yX5_moneyOfDeal.cls ≠ "java/lang/invoke/MethodHandle" ∧ yX5_moneyOfDeal.cls ≠ "java/lang/invoke/VarHandle" ∧ (parseMethodDescriptor yX5_moneyOfDeal.desc).map (fun d => d.parameters.length) = some 0 := by decide +kernel
theorem pmX5_codeOf : yX5_codeOf.cls = RX5 ∧ yX5_codeOf.cls ≠ "java/lang/invoke/MethodHandle" ∧ yX5_codeOf.cls ≠ "java/lang/invoke/VarHandle" ∧ (parseMethodDescriptor yX5_codeOf.desc).map (fun d => d.parameters.length) = some 3 := by decide +kernel
theorem pmX5_isWithin : yX5_isWithin.cls = RX5 ∧ yX5_isWithin.cls ≠ "java/lang/invoke/MethodHandle" ∧ yX5_isWithin.cls ≠ "java/lang/invoke/VarHandle" ∧ (parseMethodDescriptor yX5_isWithin.desc).map (fun d => d.parameters.length) = some 3 := by decide +kernel
theorem pmX5_isColumn : yX5_isColumn.cls = RX5 ∧ yX5_isColumn.cls ≠ "java/lang/invoke/MethodHandle" ∧ yX5_isColumn.cls ≠ "java/lang/invoke/VarHandle" ∧ (parseMethodDescriptor yX5_isColumn.desc).map (fun d => d.parameters.length) = some 1 := by decide +kernel
theorem pmX5_isCell : yX5_isCell.cls = RX5 ∧ yX5_isCell.cls ≠ "java/lang/invoke/MethodHandle" ∧ yX5_isCell.cls ≠ "java/lang/invoke/VarHandle" ∧ (parseMethodDescriptor yX5_isCell.desc).map (fun d => d.parameters.length) = some 1 := by decide +kernel
theorem pmX5_isCard : yX5_isCard.cls = RX5 ∧ yX5_isCard.cls ≠ "java/lang/invoke/MethodHandle" ∧ yX5_isCard.cls ≠ "java/lang/invoke/VarHandle" ∧ (parseMethodDescriptor yX5_isCard.desc).map (fun d => d.parameters.length) = some 1 := by decide +kernel
theorem pmX5_at : yX5_at.cls = RX5 ∧ yX5_at.cls ≠ "java/lang/invoke/MethodHandle" ∧ yX5_at.cls ≠ "java/lang/invoke/VarHandle" ∧ (parseMethodDescriptor yX5_at.desc).map (fun d => d.parameters.length) = some 2 := by decide +kernel
theorem pmX5_put : yX5_put.cls = RX5 ∧ yX5_put.cls ≠ "java/lang/invoke/MethodHandle" ∧ yX5_put.cls ≠ "java/lang/invoke/VarHandle" ∧ (parseMethodDescriptor yX5_put.desc).map (fun d => d.parameters.length) = some 3 := by decide +kernel
theorem pmX0_init : yX0_init.cls = RX0 ∧ yX0_init.cls ≠ "java/lang/invoke/MethodHandle" ∧ yX0_init.cls ≠ "java/lang/invoke/VarHandle" ∧ (parseMethodDescriptor yX0_init.desc).map (fun d => d.parameters.length) = some 0 := by decide +kernel
theorem pmX0_draw : yX0_draw.cls = RX0 ∧ yX0_draw.cls ≠ "java/lang/invoke/MethodHandle" ∧ yX0_draw.cls ≠ "java/lang/invoke/VarHandle" ∧ (parseMethodDescriptor yX0_draw.desc).map (fun d => d.parameters.length) = some 3 := by decide +kernel
theorem pmX0_takenAt : yX0_takenAt.cls = RX0 ∧ yX0_takenAt.cls ≠ "java/lang/invoke/MethodHandle" ∧ yX0_takenAt.cls ≠ "java/lang/invoke/VarHandle" ∧ (parseMethodDescriptor yX0_takenAt.desc).map (fun d => d.parameters.length) = some 1 := by decide +kernel
theorem pmX0_isSameAs : yX0_isSameAs.cls = RX0 ∧ yX0_isSameAs.cls ≠ "java/lang/invoke/MethodHandle" ∧ yX0_isSameAs.cls ≠ "java/lang/invoke/VarHandle" ∧ (parseMethodDescriptor yX0_isSameAs.desc).map (fun d => d.parameters.length) = some 2 := by decide +kernel
theorem pmX0_nextOf : yX0_nextOf.cls = RX0 ∧ yX0_nextOf.cls ≠ "java/lang/invoke/MethodHandle" ∧ yX0_nextOf.cls ≠ "java/lang/invoke/VarHandle" ∧ (parseMethodDescriptor yX0_nextOf.desc).map (fun d => d.parameters.length) = some 2 := by decide +kernel
theorem pmX1_init : yX1_init.cls = RX1 ∧ yX1_init.cls ≠ "java/lang/invoke/MethodHandle" ∧ yX1_init.cls ≠ "java/lang/invoke/VarHandle" ∧ (parseMethodDescriptor yX1_init.desc).map (fun d => d.parameters.length) = some 0 := by decide +kernel
theorem pmX1_copyFrom : yX1_copyFrom.cls = RX1 ∧ yX1_copyFrom.cls ≠ "java/lang/invoke/MethodHandle" ∧ yX1_copyFrom.cls ≠ "java/lang/invoke/VarHandle" ∧ (parseMethodDescriptor yX1_copyFrom.desc).map (fun d => d.parameters.length) = some 1 := by decide +kernel
theorem pmX1_cards : yX1_cards.cls = RX1 ∧ yX1_cards.cls ≠ "java/lang/invoke/MethodHandle" ∧ yX1_cards.cls ≠ "java/lang/invoke/VarHandle" ∧ (parseMethodDescriptor yX1_cards.desc).map (fun d => d.parameters.length) = some 0 := by decide +kernel
theorem pmX1_inColumns : yX1_inColumns.cls = RX1 ∧ yX1_inColumns.cls ≠ "java/lang/invoke/MethodHandle" ∧ yX1_inColumns.cls ≠ "java/lang/invoke/VarHandle" ∧ (parseMethodDescriptor yX1_inColumns.desc).map (fun d => d.parameters.length) = some 0 := by decide +kernel
theorem pmX1_suitOf : yX1_suitOf.cls = RX1 ∧ yX1_suitOf.cls ≠ "java/lang/invoke/MethodHandle" ∧ yX1_suitOf.cls ≠ "java/lang/invoke/VarHandle" ∧ (parseMethodDescriptor yX1_suitOf.desc).map (fun d => d.parameters.length) = some 1 := by decide +kernel
theorem pmX1_rankOf : yX1_rankOf.cls = RX1 ∧ yX1_rankOf.cls ≠ "java/lang/invoke/MethodHandle" ∧ yX1_rankOf.cls ≠ "java/lang/invoke/VarHandle" ∧ (parseMethodDescriptor yX1_rankOf.desc).map (fun d => d.parameters.length) = some 1 := by decide +kernel
theorem pmX1_isFitting : yX1_isFitting.cls = RX1 ∧ yX1_isFitting.cls ≠ "java/lang/invoke/MethodHandle" ∧ yX1_isFitting.cls ≠ "java/lang/invoke/VarHandle" ∧ (parseMethodDescriptor yX1_isFitting.desc).map (fun d => d.parameters.length) = some 2 := by decide +kernel
theorem pmX1_isForEmptyColumns : yX1_isForEmptyColumns.cls = RX1 ∧ yX1_isForEmptyColumns.cls ≠ "java/lang/invoke/MethodHandle" ∧ yX1_isForEmptyColumns.cls ≠ "java/lang/invoke/VarHandle" ∧ (parseMethodDescriptor yX1_isForEmptyColumns.desc).map (fun d => d.parameters.length) = some 1 := by decide +kernel
theorem pmX2_init : yX2_init.cls = RX2 ∧ yX2_init.cls ≠ "java/lang/invoke/MethodHandle" ∧ yX2_init.cls ≠ "java/lang/invoke/VarHandle" ∧ (parseMethodDescriptor yX2_init.desc).map (fun d => d.parameters.length) = some 0 := by decide +kernel
theorem pmX2_run : yX2_run.cls = RX2 ∧ yX2_run.cls ≠ "java/lang/invoke/MethodHandle" ∧ yX2_run.cls ≠ "java/lang/invoke/VarHandle" ∧ (parseMethodDescriptor yX2_run.desc).map (fun d => d.parameters.length) = some 1 := by decide +kernel
theorem pmX2_isKnownAlready : yX2_isKnownAlready.cls = RX2 ∧ yX2_isKnownAlready.cls ≠ "java/lang/invoke/MethodHandle" ∧ yX2_isKnownAlready.cls ≠ "java/lang/invoke/VarHandle" ∧ (parseMethodDescriptor yX2_isKnownAlready.desc).map (fun d => d.parameters.length) = some 0 := by decide +kernel
theorem pmX2_makeKnown : yX2_makeKnown.cls = RX2 ∧ yX2_makeKnown.cls ≠ "java/lang/invoke/MethodHandle" ∧ yX2_makeKnown.cls ≠ "java/lang/invoke/VarHandle" ∧ (parseMethodDescriptor yX2_makeKnown.desc).map (fun d => d.parameters.length) = some 1 := by decide +kernel
theorem pmX3_init : yX3_init.cls = RX3 ∧ yX3_init.cls ≠ "java/lang/invoke/MethodHandle" ∧ yX3_init.cls ≠ "java/lang/invoke/VarHandle" ∧ (parseMethodDescriptor yX3_init.desc).map (fun d => d.parameters.length) = some 1 := by decide +kernel
theorem pmX3_keep : yX3_keep.cls = RX3 ∧ yX3_keep.cls ≠ "java/lang/invoke/MethodHandle" ∧ yX3_keep.cls ≠ "java/lang/invoke/VarHandle" ∧ (parseMethodDescriptor yX3_keep.desc).map (fun d => d.parameters.length) = some 2 := by decide +kernel
theorem pmX3_fetch : yX3_fetch.cls = RX3 ∧ yX3_fetch.cls ≠ "java/lang/invoke/MethodHandle" ∧ yX3_fetch.cls ≠ "java/lang/invoke/VarHandle" ∧ (parseMethodDescriptor yX3_fetch.desc).map (fun d => d.parameters.length) = some 2 := by decide +kernel
theorem pmX3_areSame : yX3_areSame.cls = RX3 ∧ yX3_areSame.cls ≠ "java/lang/invoke/MethodHandle" ∧ yX3_areSame.cls ≠ "java/lang/invoke/VarHandle" ∧ (parseMethodDescriptor yX3_areSame.desc).map (fun d => d.parameters.length) = some 2 := by decide +kernel
theorem pmX3_bucketOf : yX3_bucketOf.cls = RX3 ∧ yX3_bucketOf.cls ≠ "java/lang/invoke/MethodHandle" ∧ yX3_bucketOf.cls ≠ "java/lang/invoke/VarHandle" ∧ (parseMethodDescriptor yX3_bucketOf.desc).map (fun d => d.parameters.length) = some 1 := by decide +kernel
theorem pmX3_isRow : yX3_isRow.cls = RX3 ∧ yX3_isRow.cls ≠ "java/lang/invoke/MethodHandle" ∧ yX3_isRow.cls ≠ "java/lang/invoke/VarHandle" ∧ (parseMethodDescriptor yX3_isRow.desc).map (fun d => d.parameters.length) = some 1 := by decide +kernel
theorem pmX4_init : yX4_init.cls = RX4 ∧ yX4_init.cls ≠ "java/lang/invoke/MethodHandle" ∧ yX4_init.cls ≠ "java/lang/invoke/VarHandle" ∧ (parseMethodDescriptor yX4_init.desc).map (fun d => d.parameters.length) = some 0 := by decide +kernel
theorem pmX4_copyFrom : yX4_copyFrom.cls = RX4 ∧ yX4_copyFrom.cls ≠ "java/lang/invoke/MethodHandle" ∧ yX4_copyFrom.cls ≠ "java/lang/invoke/VarHandle" ∧ (parseMethodDescriptor yX4_copyFrom.desc).map (fun d => d.parameters.length) = some 1 := by decide +kernel
theorem pmX4_lay : yX4_lay.cls = RX4 ∧ yX4_lay.cls ≠ "java/lang/invoke/MethodHandle" ∧ yX4_lay.cls ≠ "java/lang/invoke/VarHandle" ∧ (parseMethodDescriptor yX4_lay.desc).map (fun d => d.parameters.length) = some 2 := by decide +kernel
theorem pmX4_packed : yX4_packed.cls = RX4 ∧ yX4_packed.cls ≠ "java/lang/invoke/MethodHandle" ∧ yX4_packed.cls ≠ "java/lang/invoke/VarHandle" ∧ (parseMethodDescriptor yX4_packed.desc).map (fun d => d.parameters.length) = some 3 := by decide +kernel
theorem pmX4_unpacked : yX4_unpacked.cls = RX4 ∧ yX4_unpacked.cls ≠ "java/lang/invoke/MethodHandle" ∧ yX4_unpacked.cls ≠ "java/lang/invoke/VarHandle" ∧ (parseMethodDescriptor yX4_unpacked.desc).map (fun d => d.parameters.length) = some 3 := by decide +kernel
theorem pmX4_packedTops : yX4_packedTops.cls = RX4 ∧ yX4_packedTops.cls ≠ "java/lang/invoke/MethodHandle" ∧ yX4_packedTops.cls ≠ "java/lang/invoke/VarHandle" ∧ (parseMethodDescriptor yX4_packedTops.desc).map (fun d => d.parameters.length) = some 0 := by decide +kernel
theorem pmX4_unpackTops : yX4_unpackTops.cls = RX4 ∧ yX4_unpackTops.cls ≠ "java/lang/invoke/MethodHandle" ∧ yX4_unpackTops.cls ≠ "java/lang/invoke/VarHandle" ∧ (parseMethodDescriptor yX4_unpackTops.desc).map (fun d => d.parameters.length) = some 1 := by decide +kernel
theorem pmX4_topOf : yX4_topOf.cls = RX4 ∧ yX4_topOf.cls ≠ "java/lang/invoke/MethodHandle" ∧ yX4_topOf.cls ≠ "java/lang/invoke/VarHandle" ∧ (parseMethodDescriptor yX4_topOf.desc).map (fun d => d.parameters.length) = some 1 := by decide +kernel
theorem pmX4_under : yX4_under.cls = RX4 ∧ yX4_under.cls ≠ "java/lang/invoke/MethodHandle" ∧ yX4_under.cls ≠ "java/lang/invoke/VarHandle" ∧ (parseMethodDescriptor yX4_under.desc).map (fun d => d.parameters.length) = some 1 := by decide +kernel
theorem pmX4_isUp : yX4_isUp.cls = RX4 ∧ yX4_isUp.cls ≠ "java/lang/invoke/MethodHandle" ∧ yX4_isUp.cls ≠ "java/lang/invoke/VarHandle" ∧ (parseMethodDescriptor yX4_isUp.desc).map (fun d => d.parameters.length) = some 1 := by decide +kernel
theorem pmX4_liesHidden : yX4_liesHidden.cls = RX4 ∧ yX4_liesHidden.cls ≠ "java/lang/invoke/MethodHandle" ∧ yX4_liesHidden.cls ≠ "java/lang/invoke/VarHandle" ∧ (parseMethodDescriptor yX4_liesHidden.desc).map (fun d => d.parameters.length) = some 1 := by decide +kernel
theorem pmX4_cardsUp : yX4_cardsUp.cls = RX4 ∧ yX4_cardsUp.cls ≠ "java/lang/invoke/MethodHandle" ∧ yX4_cardsUp.cls ≠ "java/lang/invoke/VarHandle" ∧ (parseMethodDescriptor yX4_cardsUp.desc).map (fun d => d.parameters.length) = some 0 := by decide +kernel
theorem pmX4_isWon : yX4_isWon.cls = RX4 ∧ yX4_isWon.cls ≠ "java/lang/invoke/MethodHandle" ∧ yX4_isWon.cls ≠ "java/lang/invoke/VarHandle" ∧ (parseMethodDescriptor yX4_isWon.desc).map (fun d => d.parameters.length) = some 0 := by decide +kernel
theorem pmX4_highestUp : yX4_highestUp.cls = RX4 ∧ yX4_highestUp.cls ≠ "java/lang/invoke/MethodHandle" ∧ yX4_highestUp.cls ≠ "java/lang/invoke/VarHandle" ∧ (parseMethodDescriptor yX4_highestUp.desc).map (fun d => d.parameters.length) = some 1 := by decide +kernel
theorem pmX4_fromTop : yX4_fromTop.cls = RX4 ∧ yX4_fromTop.cls ≠ "java/lang/invoke/MethodHandle" ∧ yX4_fromTop.cls ≠ "java/lang/invoke/VarHandle" ∧ (parseMethodDescriptor yX4_fromTop.desc).map (fun d => d.parameters.length) = some 2 := by decide +kernel
theorem pmX4_heightOf : yX4_heightOf.cls = RX4 ∧ yX4_heightOf.cls ≠ "java/lang/invoke/MethodHandle" ∧ yX4_heightOf.cls ≠ "java/lang/invoke/VarHandle" ∧ (parseMethodDescriptor yX4_heightOf.desc).map (fun d => d.parameters.length) = some 1 := by decide +kernel
theorem pmX4_seenInColumn : yX4_seenInColumn.cls = RX4 ∧ yX4_seenInColumn.cls ≠ "java/lang/invoke/MethodHandle" ∧ yX4_seenInColumn.cls ≠ "java/lang/invoke/VarHandle" ∧ (parseMethodDescriptor yX4_seenInColumn.desc).map (fun d => d.parameters.length) = some 2 := by decide +kernel
theorem pmX4_isMove : yX4_isMove.cls = RX4 ∧ yX4_isMove.cls ≠ "java/lang/invoke/MethodHandle" ∧ yX4_isMove.cls ≠ "java/lang/invoke/VarHandle" ∧ (parseMethodDescriptor yX4_isMove.desc).map (fun d => d.parameters.length) = some 3 := by decide +kernel
theorem pmX4_isStockMove : yX4_isStockMove.cls = RX4 ∧ yX4_isStockMove.cls ≠ "java/lang/invoke/MethodHandle" ∧ yX4_isStockMove.cls ≠ "java/lang/invoke/VarHandle" ∧ (parseMethodDescriptor yX4_isStockMove.desc).map (fun d => d.parameters.length) = some 0 := by decide +kernel
theorem pmX4_isNextUp : yX4_isNextUp.cls = RX4 ∧ yX4_isNextUp.cls ≠ "java/lang/invoke/MethodHandle" ∧ yX4_isNextUp.cls ≠ "java/lang/invoke/VarHandle" ∧ (parseMethodDescriptor yX4_isNextUp.desc).map (fun d => d.parameters.length) = some 1 := by decide +kernel
theorem pmX4_isForColumn : yX4_isForColumn.cls = RX4 ∧ yX4_isForColumn.cls ≠ "java/lang/invoke/MethodHandle" ∧ yX4_isForColumn.cls ≠ "java/lang/invoke/VarHandle" ∧ (parseMethodDescriptor yX4_isForColumn.desc).map (fun d => d.parameters.length) = some 2 := by decide +kernel
theorem pmX4_runOf : yX4_runOf.cls = RX4 ∧ yX4_runOf.cls ≠ "java/lang/invoke/MethodHandle" ∧ yX4_runOf.cls ≠ "java/lang/invoke/VarHandle" ∧ (parseMethodDescriptor yX4_runOf.desc).map (fun d => d.parameters.length) = some 1 := by decide +kernel
theorem pmX4_mostTo : yX4_mostTo.cls = RX4 ∧ yX4_mostTo.cls ≠ "java/lang/invoke/MethodHandle" ∧ yX4_mostTo.cls ≠ "java/lang/invoke/VarHandle" ∧ (parseMethodDescriptor yX4_mostTo.desc).map (fun d => d.parameters.length) = some 1 := by decide +kernel
theorem pmX4_listMoves : yX4_listMoves.cls = RX4 ∧ yX4_listMoves.cls ≠ "java/lang/invoke/MethodHandle" ∧ yX4_listMoves.cls ≠ "java/lang/invoke/VarHandle" ∧ (parseMethodDescriptor yX4_listMoves.desc).map (fun d => d.parameters.length) = some 0 := by decide +kernel
theorem pmX4_listedAt : yX4_listedAt.cls = RX4 ∧ yX4_listedAt.cls ≠ "java/lang/invoke/MethodHandle" ∧ yX4_listedAt.cls ≠ "java/lang/invoke/VarHandle" ∧ (parseMethodDescriptor yX4_listedAt.desc).map (fun d => d.parameters.length) = some 1 := by decide +kernel
theorem pmX4_firstSafePlace : yX4_firstSafePlace.cls = RX4 ∧ yX4_firstSafePlace.cls ≠ "java/lang/invoke/MethodHandle" ∧ yX4_firstSafePlace.cls ≠ "java/lang/invoke/VarHandle" ∧ (parseMethodDescriptor yX4_firstSafePlace.desc).map (fun d => d.parameters.length) = some 0 := by decide +kernel
theorem pmX4_isSafeUp : yX4_isSafeUp.cls = RX4 ∧ yX4_isSafeUp.cls ≠ "java/lang/invoke/MethodHandle" ∧ yX4_isSafeUp.cls ≠ "java/lang/invoke/VarHandle" ∧ (parseMethodDescriptor yX4_isSafeUp.desc).map (fun d => d.parameters.length) = some 1 := by decide +kernel
theorem pmX4_play : yX4_play.cls = RX4 ∧ yX4_play.cls ≠ "java/lang/invoke/MethodHandle" ∧ yX4_play.cls ≠ "java/lang/invoke/VarHandle" ∧ (parseMethodDescriptor yX4_play.desc).map (fun d => d.parameters.length) = some 1 := by decide +kernel
theorem pmX4_turnOver : yX4_turnOver.cls = RX4 ∧ yX4_turnOver.cls ≠ "java/lang/invoke/MethodHandle" ∧ yX4_turnOver.cls ≠ "java/lang/invoke/VarHandle" ∧ (parseMethodDescriptor yX4_turnOver.desc).map (fun d => d.parameters.length) = some 0 := by decide +kernel
theorem pmX4_carry : yX4_carry.cls = RX4 ∧ yX4_carry.cls ≠ "java/lang/invoke/MethodHandle" ∧ yX4_carry.cls ≠ "java/lang/invoke/VarHandle" ∧ (parseMethodDescriptor yX4_carry.desc).map (fun d => d.parameters.length) = some 3 := by decide +kernel
theorem pmX4_layOn : yX4_layOn.cls = RX4 ∧ yX4_layOn.cls ≠ "java/lang/invoke/MethodHandle" ∧ yX4_layOn.cls ≠ "java/lang/invoke/VarHandle" ∧ (parseMethodDescriptor yX4_layOn.desc).map (fun d => d.parameters.length) = some 3 := by decide +kernel
theorem pmX4_floorOf : yX4_floorOf.cls = RX4 ∧ yX4_floorOf.cls ≠ "java/lang/invoke/MethodHandle" ∧ yX4_floorOf.cls ≠ "java/lang/invoke/VarHandle" ∧ (parseMethodDescriptor yX4_floorOf.desc).map (fun d => d.parameters.length) = some 1 := by decide +kernel
theorem pmL_cell : yL_cell.cls = RL ∧ yL_cell.cls ≠ "java/lang/invoke/MethodHandle" ∧ yL_cell.cls ≠ "java/lang/invoke/VarHandle" ∧ (parseMethodDescriptor yL_cell.desc).map (fun d => d.parameters.length) = some 2 := by decide +kernel
theorem pmL_low : yL_low.cls = RL ∧ yL_low.cls ≠ "java/lang/invoke/MethodHandle" ∧ yL_low.cls ≠ "java/lang/invoke/VarHandle" ∧ (parseMethodDescriptor yL_low.desc).map (fun d => d.parameters.length) = some 2 := by decide +kernel
theorem pmL_deck : yL_deck.cls = RL ∧ yL_deck.cls ≠ "java/lang/invoke/MethodHandle" ∧ yL_deck.cls ≠ "java/lang/invoke/VarHandle" ∧ (parseMethodDescriptor yL_deck.desc).map (fun d => d.parameters.length) = some 3 := by decide +kernel
theorem pmL_table : yL_table.cls = RL ∧ yL_table.cls ≠ "java/lang/invoke/MethodHandle" ∧ yL_table.cls ≠ "java/lang/invoke/VarHandle" ∧ (parseMethodDescriptor yL_table.desc).map (fun d => d.parameters.length) = some 5 := by decide +kernel
theorem pmL_stock : yL_stock.cls = RL ∧ yL_stock.cls ≠ "java/lang/invoke/MethodHandle" ∧ yL_stock.cls ≠ "java/lang/invoke/VarHandle" ∧ (parseMethodDescriptor yL_stock.desc).map (fun d => d.parameters.length) = some 4 := by decide +kernel
theorem pmL_deal : yL_deal.cls = RL ∧ yL_deal.cls ≠ "java/lang/invoke/MethodHandle" ∧ yL_deal.cls ≠ "java/lang/invoke/VarHandle" ∧ (parseMethodDescriptor yL_deal.desc).map (fun d => d.parameters.length) = some 3 := by decide +kernel
theorem pmL_numberOf : yL_numberOf.cls = RL ∧ yL_numberOf.cls ≠ "java/lang/invoke/MethodHandle" ∧ yL_numberOf.cls ≠ "java/lang/invoke/VarHandle" ∧ (parseMethodDescriptor yL_numberOf.desc).map (fun d => d.parameters.length) = some 2 := by decide +kernel
theorem pmL_move : yL_move.cls = RL ∧ yL_move.cls ≠ "java/lang/invoke/MethodHandle" ∧ yL_move.cls ≠ "java/lang/invoke/VarHandle" ∧ (parseMethodDescriptor yL_move.desc).map (fun d => d.parameters.length) = some 4 := by decide +kernel
theorem pmL_undo : yL_undo.cls = RL ∧ yL_undo.cls ≠ "java/lang/invoke/MethodHandle" ∧ yL_undo.cls ≠ "java/lang/invoke/VarHandle" ∧ (parseMethodDescriptor yL_undo.desc).map (fun d => d.parameters.length) = some 2 := by decide +kernel
theorem pmL_moveAt : yL_moveAt.cls = RL ∧ yL_moveAt.cls ≠ "java/lang/invoke/MethodHandle" ∧ yL_moveAt.cls ≠ "java/lang/invoke/VarHandle" ∧ (parseMethodDescriptor yL_moveAt.desc).map (fun d => d.parameters.length) = some 2 := by decide +kernel
theorem pmL_card : yL_card.cls = RL ∧ yL_card.cls ≠ "java/lang/invoke/MethodHandle" ∧ yL_card.cls ≠ "java/lang/invoke/VarHandle" ∧ (parseMethodDescriptor yL_card.desc).map (fun d => d.parameters.length) = some 3 := by decide +kernel
theorem pmL_told : yL_told.cls = RL ∧ yL_told.cls ≠ "java/lang/invoke/MethodHandle" ∧ yL_told.cls ≠ "java/lang/invoke/VarHandle" ∧ (parseMethodDescriptor yL_told.desc).map (fun d => d.parameters.length) = some 2 := by decide +kernel
theorem pmL_search : yL_search.cls = RL ∧ yL_search.cls ≠ "java/lang/invoke/MethodHandle" ∧ yL_search.cls ≠ "java/lang/invoke/VarHandle" ∧ (parseMethodDescriptor yL_search.desc).map (fun d => d.parameters.length) = some 2 := by decide +kernel
theorem pmL_known : yL_known.cls = RL ∧ yL_known.cls ≠ "java/lang/invoke/MethodHandle" ∧ yL_known.cls ≠ "java/lang/invoke/VarHandle" ∧ (parseMethodDescriptor yL_known.desc).map (fun d => d.parameters.length) = some 2 := by decide +kernel
theorem pmL_odds : yL_odds.cls = RL ∧ yL_odds.cls ≠ "java/lang/invoke/MethodHandle" ∧ yL_odds.cls ≠ "java/lang/invoke/VarHandle" ∧ (parseMethodDescriptor yL_odds.desc).map (fun d => d.parameters.length) = some 5 := by decide +kernel
theorem pmL_act : yL_act.cls = RL ∧ yL_act.cls ≠ "java/lang/invoke/MethodHandle" ∧ yL_act.cls ≠ "java/lang/invoke/VarHandle" ∧ (parseMethodDescriptor yL_act.desc).map (fun d => d.parameters.length) = some 3 := by decide +kernel
theorem pmL_areAlike : yL_areAlike.cls = RL ∧ yL_areAlike.cls ≠ "java/lang/invoke/MethodHandle" ∧ yL_areAlike.cls ≠ "java/lang/invoke/VarHandle" ∧ (parseMethodDescriptor yL_areAlike.desc).map (fun d => d.parameters.length) = some 3 := by decide +kernel
theorem pmL_isSo : yL_isSo.cls = RL ∧ yL_isSo.cls ≠ "java/lang/invoke/MethodHandle" ∧ yL_isSo.cls ≠ "java/lang/invoke/VarHandle" ∧ (parseMethodDescriptor yL_isSo.desc).map (fun d => d.parameters.length) = some 1 := by decide +kernel
theorem pmL_isHinted : yL_isHinted.cls = RL ∧ yL_isHinted.cls ≠ "java/lang/invoke/MethodHandle" ∧ yL_isHinted.cls ≠ "java/lang/invoke/VarHandle" ∧ (parseMethodDescriptor yL_isHinted.desc).map (fun d => d.parameters.length) = some 1 := by decide +kernel
theorem pmJ6_bitCount_0f7a4 : yJ6_bitCount_0f7a4.cls = RJ6 ∧ yJ6_bitCount_0f7a4.cls ≠ "java/lang/invoke/MethodHandle" ∧ yJ6_bitCount_0f7a4.cls ≠ "java/lang/invoke/VarHandle" ∧ (parseMethodDescriptor yJ6_bitCount_0f7a4.desc).map (fun d => d.parameters.length) = some 1 := by decide +kernel
theorem pmJ9_max_7cf53 : yJ9_max_7cf53.cls = RJ9 ∧ yJ9_max_7cf53.cls ≠ "java/lang/invoke/MethodHandle" ∧ yJ9_max_7cf53.cls ≠ "java/lang/invoke/VarHandle" ∧ (parseMethodDescriptor yJ9_max_7cf53.desc).map (fun d => d.parameters.length) = some 2 := by decide +kernel
theorem pmJ9_min_7cf53 : yJ9_min_7cf53.cls = RJ9 ∧ yJ9_min_7cf53.cls ≠ "java/lang/invoke/MethodHandle" ∧ yJ9_min_7cf53.cls ≠ "java/lang/invoke/VarHandle" ∧ (parseMethodDescriptor yJ9_min_7cf53.desc).map (fun d => d.parameters.length) = some 2 := by decide +kernel
theorem pmJ7_fill_53178 : yJ7_fill_53178.cls = RJ7 ∧ yJ7_fill_53178.cls ≠ "java/lang/invoke/MethodHandle" ∧ yJ7_fill_53178.cls ≠ "java/lang/invoke/VarHandle" ∧ (parseMethodDescriptor yJ7_fill_53178.desc).map (fun d => d.parameters.length) = some 2 := by decide +kernel
abbrev wtX5_init : List Cond := Cond.code yX5_init cX5_init 1 none :: TBL
abbrev wtX5_deck : List Cond := Cond.code yX5_deck cX5_deck 4 (some .int) :: TBL
abbrev wtX5_table : List Cond := Cond.code yX5_table cX5_table 5 none :: TBL
abbrev wtX5_stock : List Cond := Cond.code yX5_stock cX5_stock 4 none :: TBL
abbrev wtX5_deal : List Cond := Cond.code yX5_deal cX5_deal 3 (some .int) :: TBL
abbrev wtX5_numberOf : List Cond := Cond.code yX5_numberOf cX5_numberOf 3 (some .int) :: TBL
abbrev wtX5_move : List Cond := Cond.code yX5_move cX5_move 4 (some .int) :: TBL
abbrev wtX5_undo : List Cond := Cond.code yX5_undo cX5_undo 3 (some .int) :: TBL
abbrev wtX5_safe : List Cond := Cond.code yX5_safe cX5_safe 4 (some .int) :: TBL
abbrev wtX5_moves : List Cond := Cond.code yX5_moves cX5_moves 1 (some .int) :: TBL
abbrev wtX5_moveAt : List Cond := Cond.code yX5_moveAt cX5_moveAt 2 (some .int) :: TBL
abbrev wtX5_card : List Cond := Cond.code yX5_card cX5_card 3 (some .int) :: TBL
abbrev wtX5_told : List Cond := Cond.code yX5_told cX5_told 2 (some .int) :: TBL
abbrev wtX5_search : List Cond := Cond.code yX5_search cX5_search 2 (some .int) :: TBL
abbrev wtX5_known : List Cond := Cond.code yX5_known cX5_known 2 (some .int) :: TBL
abbrev wtX5_hint : List Cond := Cond.code yX5_hint cX5_hint 4 (some .int) :: TBL
abbrev wtX5_odds : List Cond := Cond.code yX5_odds cX5_odds 9 (some .int) :: TBL
abbrev wtX5_dealNumber : List Cond := Cond.code yX5_dealNumber cX5_dealNumber 3 none :: TBL
abbrev wtX5_doMove : List Cond := Cond.code yX5_doMove cX5_doMove 4 none :: TBL
abbrev wtX5_moneyOfDeal : List Cond := Cond.code yX5_moneyOfDeal cX5_moneyOfDeal 1 (some .int) :: TBL
abbrev wtX5_codeOf : List Cond := Cond.code yX5_codeOf cX5_codeOf 3 (some .int) :: TBL
abbrev wtX5_isWithin : List Cond := Cond.code yX5_isWithin cX5_isWithin 3 (some .boolean) :: TBL
abbrev wtX5_isColumn : List Cond := Cond.code yX5_isColumn cX5_isColumn 1 (some .boolean) :: TBL
abbrev wtX5_isCell : List Cond := Cond.code yX5_isCell cX5_isCell 1 (some .boolean) :: TBL
abbrev wtX5_isCard : List Cond := Cond.code yX5_isCard cX5_isCard 1 (some .boolean) :: TBL
abbrev wtX5_at : List Cond := Cond.code yX5_at cX5_at 2 (some .int) :: TBL
abbrev wtX5_put : List Cond := Cond.code yX5_put cX5_put 3 none :: TBL
abbrev wtX0_init : List Cond := Cond.code yX0_init cX0_init 1 none :: TBL
abbrev wtX0_draw : List Cond := Cond.code yX0_draw cX0_draw 7 none :: TBL
abbrev wtX0_takenAt : List Cond := Cond.code yX0_takenAt cX0_takenAt 2 (some .int) :: TBL
abbrev wtX0_isSameAs : List Cond := Cond.code yX0_isSameAs cX0_isSameAs 4 (some .boolean) :: TBL
abbrev wtX0_nextOf : List Cond := Cond.code yX0_nextOf cX0_nextOf 3 (some .int) :: TBL
abbrev wtX1_init : List Cond := Cond.code yX1_init cX1_init 1 none :: TBL
abbrev wtX1_copyFrom : List Cond := Cond.code yX1_copyFrom cX1_copyFrom 2 none :: TBL
abbrev wtX1_cards : List Cond := Cond.code yX1_cards cX1_cards 1 (some .int) :: TBL
abbrev wtX1_inColumns : List Cond := Cond.code yX1_inColumns cX1_inColumns 1 (some .int) :: TBL
abbrev wtX1_suitOf : List Cond := Cond.code yX1_suitOf cX1_suitOf 2 (some .int) :: TBL
abbrev wtX1_rankOf : List Cond := Cond.code yX1_rankOf cX1_rankOf 2 (some .int) :: TBL
abbrev wtX1_isFitting : List Cond := Cond.code yX1_isFitting cX1_isFitting 3 (some .boolean) :: TBL
abbrev wtX1_isForEmptyColumns : List Cond := Cond.code yX1_isForEmptyColumns cX1_isForEmptyColumns 2 (some .boolean) :: TBL
abbrev wtX2_init : List Cond := Cond.code yX2_init cX2_init 1 none :: TBL
abbrev wtX2_run : List Cond := Cond.code yX2_run cX2_run 5 (some .int) :: TBL
abbrev wtX2_isKnownAlready : List Cond := Cond.code yX2_isKnownAlready cX2_isKnownAlready 3 (some .boolean) :: TBL
abbrev wtX2_makeKnown : List Cond := Cond.code yX2_makeKnown cX2_makeKnown 3 none :: TBL
abbrev wtX3_init : List Cond := Cond.code yX3_init cX3_init 3 none :: TBL
abbrev wtX3_keep : List Cond := Cond.code yX3_keep cX3_keep 3 none :: TBL
abbrev wtX3_fetch : List Cond := Cond.code yX3_fetch cX3_fetch 3 none :: TBL
abbrev wtX3_areSame : List Cond := Cond.code yX3_areSame cX3_areSame 3 (some .boolean) :: TBL
abbrev wtX3_bucketOf : List Cond := Cond.code yX3_bucketOf cX3_bucketOf 4 (some .int) :: TBL
abbrev wtX3_isRow : List Cond := Cond.code yX3_isRow cX3_isRow 2 (some .boolean) :: TBL
abbrev wtX4_init : List Cond := Cond.code yX4_init cX4_init 1 none :: TBL
abbrev wtX4_copyFrom : List Cond := Cond.code yX4_copyFrom cX4_copyFrom 2 none :: TBL
abbrev wtX4_lay : List Cond := Cond.code yX4_lay cX4_lay 7 none :: TBL
abbrev wtX4_packed : List Cond := Cond.code yX4_packed cX4_packed 7 (some .long) :: TBL
abbrev wtX4_unpacked : List Cond := Cond.code yX4_unpacked cX4_unpacked 8 (some .int) :: TBL
abbrev wtX4_packedTops : List Cond := Cond.code yX4_packedTops cX4_packedTops 4 (some .long) :: TBL
abbrev wtX4_unpackTops : List Cond := Cond.code yX4_unpackTops cX4_unpackTops 6 none :: TBL
abbrev wtX4_topOf : List Cond := Cond.code yX4_topOf cX4_topOf 2 (some .int) :: TBL
abbrev wtX4_under : List Cond := Cond.code yX4_under cX4_under 3 (some .int) :: TBL
abbrev wtX4_isUp : List Cond := Cond.code yX4_isUp cX4_isUp 2 (some .boolean) :: TBL
abbrev wtX4_liesHidden : List Cond := Cond.code yX4_liesHidden cX4_liesHidden 2 (some .boolean) :: TBL
abbrev wtX4_cardsUp : List Cond := Cond.code yX4_cardsUp cX4_cardsUp 3 (some .int) :: TBL
abbrev wtX4_isWon : List Cond := Cond.code yX4_isWon cX4_isWon 1 (some .boolean) :: TBL
abbrev wtX4_highestUp : List Cond := Cond.code yX4_highestUp cX4_highestUp 4 (some .int) :: TBL
abbrev wtX4_fromTop : List Cond := Cond.code yX4_fromTop cX4_fromTop 6 (some .int) :: TBL
abbrev wtX4_heightOf : List Cond := Cond.code yX4_heightOf cX4_heightOf 4 (some .int) :: TBL
abbrev wtX4_seenInColumn : List Cond := Cond.code yX4_seenInColumn cX4_seenInColumn 5 (some .int) :: TBL
abbrev wtX4_isMove : List Cond := Cond.code yX4_isMove cX4_isMove 5 (some .boolean) :: TBL
abbrev wtX4_isStockMove : List Cond := Cond.code yX4_isStockMove cX4_isStockMove 1 (some .boolean) :: TBL
abbrev wtX4_isNextUp : List Cond := Cond.code yX4_isNextUp cX4_isNextUp 2 (some .boolean) :: TBL
abbrev wtX4_isForColumn : List Cond := Cond.code yX4_isForColumn cX4_isForColumn 4 (some .boolean) :: TBL
abbrev wtX4_runOf : List Cond := Cond.code yX4_runOf cX4_runOf 5 (some .int) :: TBL
abbrev wtX4_mostTo : List Cond := Cond.code yX4_mostTo cX4_mostTo 4 (some .int) :: TBL
abbrev wtX4_listMoves : List Cond := Cond.code yX4_listMoves cX4_listMoves 6 none :: TBL
abbrev wtX4_listedAt : List Cond := Cond.code yX4_listedAt cX4_listedAt 2 (some .int) :: TBL
abbrev wtX4_firstSafePlace : List Cond := Cond.code yX4_firstSafePlace cX4_firstSafePlace 2 (some .int) :: TBL
abbrev wtX4_isSafeUp : List Cond := Cond.code yX4_isSafeUp cX4_isSafeUp 3 (some .boolean) :: TBL
abbrev wtX4_play : List Cond := Cond.code yX4_play cX4_play 3 none :: TBL
abbrev wtX4_turnOver : List Cond := Cond.code yX4_turnOver cX4_turnOver 2 none :: TBL
abbrev wtX4_carry : List Cond := Cond.code yX4_carry cX4_carry 7 none :: TBL
abbrev wtX4_layOn : List Cond := Cond.code yX4_layOn cX4_layOn 5 none :: TBL
abbrev wtX4_floorOf : List Cond := Cond.code yX4_floorOf cX4_floorOf 1 (some .int) :: TBL
abbrev wtJ6_bitCount_0f7a4 : List Cond := Cond.code yJ6_bitCount_0f7a4 cJ6_bitCount_0f7a4 1 (some .int) :: TBL
abbrev wtJ9_max_7cf53 : List Cond := Cond.code yJ9_max_7cf53 cJ9_max_7cf53 2 (some .int) :: TBL
abbrev wtJ9_min_7cf53 : List Cond := Cond.code yJ9_min_7cf53 cJ9_min_7cf53 2 (some .int) :: TBL
abbrev wtJ7_fill_53178 : List Cond := Cond.code yJ7_fill_53178 cJ7_fill_53178 4 none :: TBL
