set_option maxRecDepth 20000 in
theorem wsL_law_in0_wsL_law0_r1 : ∀ w ∈ wsL_law0_r1, w ∈ lw_tbl := fun w h => (goodIn_p wsL_law0_r1 [37, 40] (by decide +kernel) (by decide +kernel) w h).1
set_option maxRecDepth 20000 in
theorem wsL_law_in0_wsL_law0_r2 : ∀ w ∈ wsL_law0_r2, w ∈ lw_tbl := fun w h => (goodIn_p wsL_law0_r2 [45] (by decide +kernel) (by decide +kernel) w h).1
set_option maxRecDepth 20000 in
theorem wsL_law_in0_wsL_law0_r3 : ∀ w ∈ wsL_law0_r3, w ∈ lw_tbl := fun w h => (goodIn_p wsL_law0_r3 [94, 131, 135] (by decide +kernel) (by decide +kernel) w h).1
set_option maxRecDepth 20000 in
theorem wsL_law_in0_wsL_law0_r4 : ∀ w ∈ wsL_law0_r4, w ∈ lw_tbl := fun w h => (goodIn_p wsL_law0_r4 [151, 185, 197] (by decide +kernel) (by decide +kernel) w h).1
set_option maxRecDepth 20000 in
theorem wsL_law_in0_wsL_law0_r5 : ∀ w ∈ wsL_law0_r5, w ∈ lw_tbl := fun w h => (goodIn_p wsL_law0_r5 [201, 205, 208, 211, 220, 223] (by decide +kernel) (by decide +kernel) w h).1
set_option maxRecDepth 20000 in
theorem wsL_law_in0_wsL_law0_r6 : ∀ w ∈ wsL_law0_r6, w ∈ lw_tbl := fun w h => (goodIn_p wsL_law0_r6 [227, 230, 234, 240, 243, 247] (by decide +kernel) (by decide +kernel) w h).1
theorem wsL_law_in0_wsL_law0_r7_s0 : ∀ w ∈ ([Cond.instanceMethod yX4_layOn, Cond.selects RX4 yX4_layOn yX4_layOn, Cond.code yX4_layOn cX4_layOn 5 none, Cond.methodLink RX4 179 yX4_floorOf, Cond.static yX4_floorOf, Cond.code yX4_floorOf cX4_floorOf 1 (some .int), Cond.methodLink RL 109 yL_cell, Cond.static yL_cell, Cond.initialized RL, Cond.code yL_cell cL_cell 2 (some .int), Cond.methodLink RL 113 yL_act, Cond.static yL_act] : List Cond), w ∈ lw_tbl := fun w h => (goodIn_p [Cond.instanceMethod yX4_layOn, Cond.selects RX4 yX4_layOn yX4_layOn, Cond.code yX4_layOn cX4_layOn 5 none, Cond.methodLink RX4 179 yX4_floorOf, Cond.static yX4_floorOf, Cond.code yX4_floorOf cX4_floorOf 1 (some .int), Cond.methodLink RL 109 yL_cell, Cond.static yL_cell, Cond.initialized RL, Cond.code yL_cell cL_cell 2 (some .int), Cond.methodLink RL 113 yL_act, Cond.static yL_act] [251, 254, 388] (by decide +kernel) (by decide +kernel) w h).1
set_option maxRecDepth 100000 in
theorem wsL_law_in0_wsL_law0_r7_s1_m : Cond.code yL_act cL_act 7 (some .int) ∈ lw_tbl := List.mem_of_getElem? (i := 391) rfl
theorem wsL_law_in0_wsL_law0_r7_s1 : ∀ w ∈ ([Cond.code yL_act cL_act 7 (some .int)] : List Cond), w ∈ lw_tbl := fun w h => by rw [List.mem_singleton] at h; rw [h]; exact wsL_law_in0_wsL_law0_r7_s1_m
theorem wsL_law_in0_wsL_law0_r7_s2 : ∀ w ∈ ([Cond.methodLink RL 62 yL_low, Cond.static yL_low, Cond.code yL_low cL_low 2 (some .int), Cond.constant RL 7 (2147483647), Cond.methodLink RL 67 yL_deck, Cond.static yL_deck, Cond.codeWith yL_deck cL_deck 4 (some .int) [(0, 6, 7, 14)], Cond.classLink RL 14 "java/lang/IllegalArgumentException", Cond.methodLink RL 8 yX5_deck, Cond.instanceMethod yX5_deck, Cond.selects RX5 yX5_deck yX5_deck] : List Cond), w ∈ lw_tbl := fun w h => (goodIn_p [Cond.methodLink RL 62 yL_low, Cond.static yL_low, Cond.code yL_low cL_low 2 (some .int), Cond.constant RL 7 (2147483647), Cond.methodLink RL 67 yL_deck, Cond.static yL_deck, Cond.codeWith yL_deck cL_deck 4 (some .int) [(0, 6, 7, 14)], Cond.classLink RL 14 "java/lang/IllegalArgumentException", Cond.methodLink RL 8 yX5_deck, Cond.instanceMethod yX5_deck, Cond.selects RX5 yX5_deck yX5_deck] [394] (by decide +kernel) (by decide +kernel) w h).1
theorem wsL_law_in0_wsL_law0_r7 : ∀ w ∈ wsL_law0_r7, w ∈ lw_tbl := by
  intro w h
  replace h : w ∈ ([Cond.instanceMethod yX4_layOn, Cond.selects RX4 yX4_layOn yX4_layOn, Cond.code yX4_layOn cX4_layOn 5 none, Cond.methodLink RX4 179 yX4_floorOf, Cond.static yX4_floorOf, Cond.code yX4_floorOf cX4_floorOf 1 (some .int), Cond.methodLink RL 109 yL_cell, Cond.static yL_cell, Cond.initialized RL, Cond.code yL_cell cL_cell 2 (some .int), Cond.methodLink RL 113 yL_act, Cond.static yL_act] : List Cond) ++ (([Cond.code yL_act cL_act 7 (some .int)] : List Cond) ++ (([Cond.methodLink RL 62 yL_low, Cond.static yL_low, Cond.code yL_low cL_low 2 (some .int), Cond.constant RL 7 (2147483647), Cond.methodLink RL 67 yL_deck, Cond.static yL_deck, Cond.codeWith yL_deck cL_deck 4 (some .int) [(0, 6, 7, 14)], Cond.classLink RL 14 "java/lang/IllegalArgumentException", Cond.methodLink RL 8 yX5_deck, Cond.instanceMethod yX5_deck, Cond.selects RX5 yX5_deck yX5_deck] : List Cond))) := h
  exact ((List.mem_append.mp h).elim (fun h => wsL_law_in0_wsL_law0_r7_s0 w h) (fun h => ((List.mem_append.mp h).elim (fun h => wsL_law_in0_wsL_law0_r7_s1 w h) (fun h => (wsL_law_in0_wsL_law0_r7_s2 w h)))))
set_option maxRecDepth 20000 in
theorem wsL_law_in0_wsL_law0_r8 : ∀ w ∈ wsL_law0_r8, w ∈ lw_tbl := fun w h => (goodIn_p wsL_law0_r8 [403, 293, 413] (by decide +kernel) (by decide +kernel) w h).1
set_option maxRecDepth 20000 in
theorem wsL_law_in0_wsL_law0_r9 : ∀ w ∈ wsL_law0_r9, w ∈ lw_tbl := fun w h => (goodIn_p wsL_law0_r9 [422, 431, 374, 365] (by decide +kernel) (by decide +kernel) w h).1
set_option maxRecDepth 20000 in
theorem wsL_law_in0_wsL_law0_r10 : ∀ w ∈ wsL_law0_r10, w ∈ lw_tbl := fun w h => (goodIn_p wsL_law0_r10 [369, 437, 445, 450, 455] (by decide +kernel) (by decide +kernel) w h).1
set_option maxRecDepth 20000 in
theorem wsL_law_in0_wsL_law0_r11 : ∀ w ∈ wsL_law0_r11, w ∈ lw_tbl := fun w h => (goodIn_p wsL_law0_r11 [459, 462, 466, 470, 474, 478] (by decide +kernel) (by decide +kernel) w h).1
set_option maxRecDepth 20000 in
theorem wsL_law_in0_wsL_law0_r12 : ∀ w ∈ wsL_law0_r12, w ∈ lw_tbl := fun w h => (goodIn_p wsL_law0_r12 [482, 486, 490, 494, 498, 502] (by decide +kernel) (by decide +kernel) w h).1
set_option maxRecDepth 20000 in
theorem wsL_law_in0_wsL_law0_r13 : ∀ w ∈ wsL_law0_r13, w ∈ lw_tbl := fun w h => (goodIn_p wsL_law0_r13 [506, 510, 515, 519, 522, 526] (by decide +kernel) (by decide +kernel) w h).1
set_option maxRecDepth 20000 in
theorem wsL_law_in0_wsL_law0_r14 : ∀ w ∈ wsL_law0_r14, w ∈ lw_tbl := fun w h => (goodIn_p wsL_law0_r14 [546, 554, 578, 582] (by decide +kernel) (by decide +kernel) w h).1
set_option maxRecDepth 20000 in
theorem wsL_law_in0_wsL_law0_r15 : ∀ w ∈ wsL_law0_r15, w ∈ lw_tbl := fun w h => (goodIn_p wsL_law0_r15 [586, 590, 595, 600, 604] (by decide +kernel) (by decide +kernel) w h).1
set_option maxRecDepth 20000 in
theorem wsL_law_in0_wsL_law0_r16 : ∀ w ∈ wsL_law0_r16, w ∈ lw_tbl := fun w h => (goodIn_p wsL_law0_r16 [608, 615, 621, 625, 630] (by decide +kernel) (by decide +kernel) w h).1
set_option maxRecDepth 20000 in
theorem wsL_law_in0_wsL_law0_r17 : ∀ w ∈ wsL_law0_r17, w ∈ lw_tbl := fun w h => (goodIn_p wsL_law0_r17 [634, 638, 642, 653] (by decide +kernel) (by decide +kernel) w h).1
set_option maxRecDepth 20000 in
theorem wsL_law_in0_wsL_law0_r18 : ∀ w ∈ wsL_law0_r18, w ∈ lw_tbl := fun w h => (goodIn_p wsL_law0_r18 [658, 665, 672, 676] (by decide +kernel) (by decide +kernel) w h).1
set_option maxRecDepth 20000 in
theorem wsL_law_in0_wsL_law0_r19 : ∀ w ∈ wsL_law0_r19, w ∈ lw_tbl := fun w h => (goodIn_p wsL_law0_r19 [378, 689, 693] (by decide +kernel) (by decide +kernel) w h).1
set_option maxRecDepth 20000 in
theorem wsL_law_in0_wsL_law0_r20 : ∀ w ∈ wsL_law0_r20, w ∈ lw_tbl := fun w h => (goodIn_p wsL_law0_r20 [700, 290, 382] (by decide +kernel) (by decide +kernel) w h).1
set_option maxRecDepth 20000 in
theorem wsL_law_in0_wsL_law0_r21 : ∀ w ∈ wsL_law0_r21, w ∈ lw_tbl := fun w h => (goodIn_p wsL_law0_r21 [710, 719, 724, 728, 732] (by decide +kernel) (by decide +kernel) w h).1
set_option maxRecDepth 20000 in
theorem wsL_law_in0_wsL_law0_r22 : ∀ w ∈ wsL_law0_r22, w ∈ lw_tbl := fun w h => (goodIn_p wsL_law0_r22 [736, 739, 743, 746] (by decide +kernel) (by decide +kernel) w h).1
set_option maxRecDepth 20000 in
theorem wsL_law_in0_wsX50 : ∀ w ∈ wsX50, w ∈ lw_tbl := fun w h => (goodIn_p wsX50 [] (by decide +kernel) (by decide +kernel) w h).1
set_option maxRecDepth 20000 in
theorem wsL_law_in0_wsX10 : ∀ w ∈ wsX10, w ∈ lw_tbl := fun w h => (goodIn_p wsX10 [] (by decide +kernel) (by decide +kernel) w h).1
set_option maxRecDepth 20000 in
theorem wsL_law_in0_wsX40 : ∀ w ∈ wsX40, w ∈ lw_tbl := fun w h => (goodIn_p wsX40 [] (by decide +kernel) (by decide +kernel) w h).1
set_option maxRecDepth 20000 in
theorem wsL_law_in0_wsX30 : ∀ w ∈ wsX30, w ∈ lw_tbl := fun w h => (goodIn_p wsX30 [] (by decide +kernel) (by decide +kernel) w h).1
set_option maxRecDepth 20000 in
theorem wsL_law_in0_wsX20 : ∀ w ∈ wsX20, w ∈ lw_tbl := fun w h => (goodIn_p wsX20 [] (by decide +kernel) (by decide +kernel) w h).1
set_option maxRecDepth 20000 in
theorem wsL_law_in0_wsX00 : ∀ w ∈ wsX00, w ∈ lw_tbl := fun w h => (goodIn_p wsX00 [] (by decide +kernel) (by decide +kernel) w h).1
set_option maxRecDepth 20000 in
theorem wsL_law_in0 : ∀ w ∈ wsL_law0, w ∈ lw_tbl := fun w h => (List.mem_append.mp h).elim (fun h => (List.mem_append.mp h).elim (fun h => (List.mem_append.mp h).elim (fun h => (List.mem_append.mp h).elim (fun h => (List.mem_append.mp h).elim (fun h => (List.mem_append.mp h).elim (fun h => (List.mem_append.mp h).elim (fun h => (List.mem_append.mp h).elim (fun h => wsL_law_in0_wsL_law0_r1 w h) (fun h => (List.mem_append.mp h).elim (fun h => wsL_law_in0_wsL_law0_r2 w h) (fun h => (List.mem_append.mp h).elim (fun h => wsL_law_in0_wsL_law0_r3 w h) (fun h => (List.mem_append.mp h).elim (fun h => wsL_law_in0_wsL_law0_r4 w h) (fun h => (List.mem_append.mp h).elim (fun h => wsL_law_in0_wsL_law0_r5 w h) (fun h => (List.mem_append.mp h).elim (fun h => wsL_law_in0_wsL_law0_r6 w h) (fun h => (List.mem_append.mp h).elim (fun h => wsL_law_in0_wsL_law0_r7 w h) (fun h => (List.mem_append.mp h).elim (fun h => wsL_law_in0_wsL_law0_r8 w h) (fun h => (List.mem_append.mp h).elim (fun h => wsL_law_in0_wsL_law0_r9 w h) (fun h => (List.mem_append.mp h).elim (fun h => wsL_law_in0_wsL_law0_r10 w h) (fun h => (List.mem_append.mp h).elim (fun h => wsL_law_in0_wsL_law0_r11 w h) (fun h => (List.mem_append.mp h).elim (fun h => wsL_law_in0_wsL_law0_r12 w h) (fun h => (List.mem_append.mp h).elim (fun h => wsL_law_in0_wsL_law0_r13 w h) (fun h => (List.mem_append.mp h).elim (fun h => wsL_law_in0_wsL_law0_r14 w h) (fun h => (List.mem_append.mp h).elim (fun h => wsL_law_in0_wsL_law0_r15 w h) (fun h => (List.mem_append.mp h).elim (fun h => wsL_law_in0_wsL_law0_r16 w h) (fun h => (List.mem_append.mp h).elim (fun h => wsL_law_in0_wsL_law0_r17 w h) (fun h => (List.mem_append.mp h).elim (fun h => wsL_law_in0_wsL_law0_r18 w h) (fun h => (List.mem_append.mp h).elim (fun h => wsL_law_in0_wsL_law0_r19 w h) (fun h => (List.mem_append.mp h).elim (fun h => wsL_law_in0_wsL_law0_r20 w h) (fun h => (List.mem_append.mp h).elim (fun h => wsL_law_in0_wsL_law0_r21 w h) (fun h => wsL_law_in0_wsL_law0_r22 w h)))))))))))))))))))))) (fun h => wsL_law_in0_wsX50 w h)) (fun h => wsL_law_in0_wsX10 w h)) (fun h => wsL_law_in0_wsX40 w h)) (fun h => wsL_law_in0_wsX30 w h)) (fun h => wsL_law_in0_wsX20 w h)) (fun h => wsL_law_in0_wsX00 w h)) (fun h => absurd h List.not_mem_nil)
theorem wsL_law_x0 : ∀ w ∈ (vx_atS RX5 74 "java/lang/IllegalArgumentException" ["java/lang/RuntimeException", "java/lang/Exception"]).filter goodWord, w ∈ lw_tbl := by decide +kernel
theorem wsL_law_x1 : ∀ w ∈ (vx_atS RX5 189 "java/lang/IndexOutOfBoundsException" ["java/lang/RuntimeException", "java/lang/Exception"]).filter goodWord, w ∈ lw_tbl := by decide +kernel
theorem wsL_law_x2 : ∀ w ∈ (vx_atS RX5 157 "java/lang/IllegalStateException" ["java/lang/RuntimeException", "java/lang/Exception"]).filter goodWord, w ∈ lw_tbl := by decide +kernel
theorem wsL_law_in : ∀ w ∈ wsL_law, w ∈ lw_tbl := fun w h => (List.mem_append.mp h).elim (fun h => (List.mem_append.mp h).elim (fun h => (List.mem_append.mp h).elim (fun h => wsL_law_in0 w h) (fun h => wsL_law_x0 w h)) (fun h => wsL_law_x1 w h)) (fun h => wsL_law_x2 w h)
theorem inlX0 : ∀ w ∈ wsX00, w ∈ wsL_law := fun _ h => List.mem_append_left _ (List.mem_append_left _ (List.mem_append_left _ (List.mem_append_left _ (List.mem_append_right _ h))))
theorem inX0 : ∀ w ∈ wsX00, w ∈ lw_tbl := fun w h => wsL_law_in w (inlX0 w h)
theorem inlX1 : ∀ w ∈ wsX10, w ∈ wsL_law := fun _ h => List.mem_append_left _ (List.mem_append_left _ (List.mem_append_left _ (List.mem_append_left _ (List.mem_append_left _ (List.mem_append_left _ (List.mem_append_left _ (List.mem_append_left _ (List.mem_append_right _ h))))))))
theorem inX1 : ∀ w ∈ wsX10, w ∈ lw_tbl := fun w h => wsL_law_in w (inlX1 w h)
theorem inlX2 : ∀ w ∈ wsX20, w ∈ wsL_law := fun _ h => List.mem_append_left _ (List.mem_append_left _ (List.mem_append_left _ (List.mem_append_left _ (List.mem_append_left _ (List.mem_append_right _ h)))))
theorem inX2 : ∀ w ∈ wsX20, w ∈ lw_tbl := fun w h => wsL_law_in w (inlX2 w h)
theorem inlX3 : ∀ w ∈ wsX30, w ∈ wsL_law := fun _ h => List.mem_append_left _ (List.mem_append_left _ (List.mem_append_left _ (List.mem_append_left _ (List.mem_append_left _ (List.mem_append_left _ (List.mem_append_right _ h))))))
theorem inX3 : ∀ w ∈ wsX30, w ∈ lw_tbl := fun w h => wsL_law_in w (inlX3 w h)
theorem inlX4 : ∀ w ∈ wsX40, w ∈ wsL_law := fun _ h => List.mem_append_left _ (List.mem_append_left _ (List.mem_append_left _ (List.mem_append_left _ (List.mem_append_left _ (List.mem_append_left _ (List.mem_append_left _ (List.mem_append_right _ h)))))))
theorem inX4 : ∀ w ∈ wsX40, w ∈ lw_tbl := fun w h => wsL_law_in w (inlX4 w h)
theorem inlX5 : ∀ w ∈ wsX50, w ∈ wsL_law := fun _ h => List.mem_append_left _ (List.mem_append_left _ (List.mem_append_left _ (List.mem_append_left _ (List.mem_append_left _ (List.mem_append_left _ (List.mem_append_left _ (List.mem_append_left _ (List.mem_append_left _ (List.mem_append_right _ h)))))))))
theorem inX5 : ∀ w ∈ wsX50, w ∈ lw_tbl := fun w h => wsL_law_in w (inlX5 w h)
theorem inX6 : ∀ w ∈ wsX60, w ∈ lw_tbl := by decide +kernel
theorem inJx145de : ∀ w ∈ wsJx145de0, w ∈ lw_tbl := by decide +kernel
theorem inJ6 : ∀ w ∈ wsJ60, w ∈ lw_tbl := by decide +kernel
theorem inJ9 : ∀ w ∈ wsJ90, w ∈ lw_tbl := by decide +kernel
theorem inJ0 : ∀ w ∈ wsJ00, w ∈ lw_tbl := by decide +kernel
theorem inJ10 : ∀ w ∈ wsJ100, w ∈ lw_tbl := by decide +kernel
theorem inJ7 : ∀ w ∈ wsJ70, w ∈ lw_tbl := by decide +kernel
