/-! ===== the law's callers; written by program out of the bytecode ===== -/
abbrev wtL_deck : List Cond := Cond.codeWith yL_deck cL_deck 4 (some .int) [(0, 6, 7, 14)] :: TBL
set_option maxHeartbeats 4000000 in
set_option maxRecDepth 100000 in
theorem hA_deck (l : Launch) (D : va_G) (cI cJ : ClassId) (hfl : l.stackTraces = false) (a : Nat → Nat) {Z : AS} {u : PC} (hu : okU Z u) (v1 : Int32) (v2 : Int32) : CtU l D [(cI, .int), (cJ, .long)] yL_deck wtL_deck ({ frames := 7, cells := 1, slots := 6, locals := 105 } : Room) [.ref (a 0), .int v1, .int v2] (WU cI cJ a u) (WU cI cJ a) (okU (aDeck Z v1 v2).2.2) (ansA (aDeck Z v1 v2)) 1 6 := by
  refine CtU.of (cc := cL_deck) (maxL := 4) (hh := [(0, 6, 7, 14)]) rfl (by decide) rfl (Nat.le_of_ble_eq_true rfl) ?_
  intro p e s m args below meth c A H0 Q ls X htab hE hZ9 hS hl kret
  have hCF := X.1
  obtain ⟨⟨hx, hb, hml, hown, hts⟩, hK, hA⟩ := X
  have hl : lv_has ls 4 [(0, .ref (a 0)), (1, .int v1), (2, .int v2)] := hl
  replace hS : HS D A H0 (WU cI cJ a u ++ []) H0 [] := hS.cast (List.append_nil _).symm
  refine lv_aload_n hx hb dL_deck_0 rfl (lv_at hl 0 rfl) ?_
  refine lv_iload_n hx hb dL_deck_1 rfl (lv_at hl 1 rfl) ?_
  refine lv_iload_n hx hb dL_deck_2 rfl (lv_at hl 2 rfl) ?_
  refine dX_deck hCF hK hA hfl hE hZ9 v1 v2 (cwV 2 hts (TBL_V mw_165 mw_166 mw_167 mw_2 mw_168) rfl rfl rfl pmX5_deck ⟨Nat.le_of_ble_eq_true rfl, Nat.le_of_ble_eq_true rfl⟩) hu hS hl.1 (Nat.le_of_ble_eq_true rfl) ⟨Nat.le_of_ble_eq_true rfl, Nat.le_of_ble_eq_true rfl⟩ dL_deck_3 (fun H locs q9 ce u' hth ho hS hce hcv hcl => ?_) (fun H locs u' h0 ho hS => ?_)
  · have eth : (aDeck Z v1 v2).1 = 1 := by have := th_deck Z v1 v2; omega
    rw [eth] at hcl
    refine vx_catch (own := RL) (name := exNm 1) hown [] ⟨0, 6, 7, 14⟩ [] htab (fun _ h => absurd h List.not_mem_nil) rfl (by decide) (hts (.classLink RL 14 "java/lang/IllegalArgumentException") (List.mem_cons_of_mem _ mw_164)) (hE.word (exF (k := 1) (by decide)).2.2.2.2.2.2 args) hce hcv hcl ?_
    refine lv_astore_n (lv' := [(3, .ref q9), (0, .ref (a 0)), (1, .int v1), (2, .int v2)]) hx hb dL_deck_7 rfl hl (by decide) rfl (fun ls hl => ?_)
    refine lv_ldc (v := -99999999) hx hb hown (hts (.constant RL 16 (-99999999)) (List.mem_cons_of_mem _ mw_3)) dL_deck_8 ?_
    rw [List.append_nil] at hS
    exact kret _ _ _ _ _ u' (by unfold ansA; rw [if_neg (fun z => by rw [z] at eth; exact absurd eth (by decide))]) ho hS dL_deck_10
  · rw [List.append_nil] at hS
    exact kret _ _ _ _ _ u' (by unfold ansA; rw [if_pos h0]) ho hS dL_deck_6
abbrev wtL_table : List Cond := Cond.codeWith yL_table cL_table 6 (some .int) [(0, 10, 11, 14)] :: TBL
set_option maxHeartbeats 4000000 in
set_option maxRecDepth 100000 in
theorem hA_table (l : Launch) (D : va_G) (cI cJ : ClassId) (hfl : l.stackTraces = false) (a : Nat → Nat) {Z : AS} {u : PC} (hu : okU Z u) (v1 : Int32) (v2 : Int32) (v3 : Int32) (v4 : Int32) : CtU l D [(cI, .int), (cJ, .long)] yL_table wtL_table ({ frames := 7, cells := 1, slots := 6, locals := 106 } : Room) [.ref (a 0), .int v1, .int v2, .int v3, .int v4] (WU cI cJ a u) (WU cI cJ a) (okU (aTable Z v1 v2 v3 v4).2.2) (ansA (aTable Z v1 v2 v3 v4)) 1 6 := by
  refine CtU.of (cc := cL_table) (maxL := 6) (hh := [(0, 10, 11, 14)]) rfl (by decide) rfl (Nat.le_of_ble_eq_true rfl) ?_
  intro p e s m args below meth c A H0 Q ls X htab hE hZ9 hS hl kret
  have hCF := X.1
  obtain ⟨⟨hx, hb, hml, hown, hts⟩, hK, hA⟩ := X
  have hl : lv_has ls 6 [(0, .ref (a 0)), (1, .int v1), (2, .int v2), (3, .int v3), (4, .int v4)] := hl
  replace hS : HS D A H0 (WU cI cJ a u ++ []) H0 [] := hS.cast (List.append_nil _).symm
  refine lv_aload_n hx hb dL_table_0 rfl (lv_at hl 0 rfl) ?_
  refine lv_iload_n hx hb dL_table_1 rfl (lv_at hl 1 rfl) ?_
  refine lv_iload_n hx hb dL_table_2 rfl (lv_at hl 2 rfl) ?_
  refine lv_iload_n hx hb dL_table_3 rfl (lv_at hl 3 rfl) ?_
  refine lv_iload hx hb dL_table_4 (lv_at hl 4 rfl) ?_
  refine dX_table hCF hK hA hfl hE hZ9 v1 v2 v3 v4 (cwV 4 hts (TBL_V mw_180 mw_181 mw_182 mw_2 mw_183) rfl rfl rfl pmX5_table ⟨Nat.le_of_ble_eq_true rfl, Nat.le_of_ble_eq_true rfl⟩) hu hS hl.1 (Nat.le_of_ble_eq_true rfl) ⟨Nat.le_of_ble_eq_true rfl, Nat.le_of_ble_eq_true rfl⟩ dL_table_6 (fun H locs q9 ce u' hth ho hS hce hcv hcl => ?_) (fun H locs u' h0 ho hS => ?_)
  · have eth : (aTable Z v1 v2 v3 v4).1 = 1 := by have := th_table Z v1 v2 v3 v4; omega
    rw [eth] at hcl
    refine vx_catch (own := RL) (name := exNm 1) hown [] ⟨0, 10, 11, 14⟩ [] htab (fun _ h => absurd h List.not_mem_nil) rfl (by decide) (hts (.classLink RL 14 "java/lang/IllegalArgumentException") (List.mem_cons_of_mem _ mw_164)) (hE.word (exF (k := 1) (by decide)).2.2.2.2.2.2 args) hce hcv hcl ?_
    refine lv_astore (lv' := [(5, .ref q9), (0, .ref (a 0)), (1, .int v1), (2, .int v2), (3, .int v3), (4, .int v4)]) hx hb dL_table_11 hl (by decide) rfl (fun ls hl => ?_)
    refine lv_ldc (v := -99999999) hx hb hown (hts (.constant RL 16 (-99999999)) (List.mem_cons_of_mem _ mw_3)) dL_table_13 ?_
    rw [List.append_nil] at hS
    exact kret _ _ _ _ _ u' (by unfold ansA; rw [if_neg (fun z => by rw [z] at eth; exact absurd eth (by decide))]) ho hS dL_table_15
  · refine lv_iconst (v := (nI 0)) hx hb dL_table_9 (by decide) ?_
    rw [List.append_nil] at hS
    exact kret _ _ _ _ _ u' (by unfold ansA; rw [if_pos h0]; unfold aTable; split <;> rfl) ho hS dL_table_10
abbrev wtL_stock : List Cond := Cond.codeWith yL_stock cL_stock 5 (some .int) [(0, 8, 9, 14)] :: TBL
set_option maxHeartbeats 4000000 in
set_option maxRecDepth 100000 in
theorem hA_stock (l : Launch) (D : va_G) (cI cJ : ClassId) (hfl : l.stackTraces = false) (a : Nat → Nat) {Z : AS} {u : PC} (hu : okU Z u) (v1 : Int32) (v2 : Int32) (v3 : Bool) : CtU l D [(cI, .int), (cJ, .long)] yL_stock wtL_stock ({ frames := 7, cells := 1, slots := 6, locals := 105 } : Room) [.ref (a 0), .int v1, .int v2, .int (bi v3)] (WU cI cJ a u) (WU cI cJ a) (okU (aStock Z v1 v2 v3).2.2) (ansA (aStock Z v1 v2 v3)) 1 6 := by
  refine CtU.of (cc := cL_stock) (maxL := 5) (hh := [(0, 8, 9, 14)]) rfl (by decide) rfl (Nat.le_of_ble_eq_true rfl) ?_
  intro p e s m args below meth c A H0 Q ls X htab hE hZ9 hS hl kret
  have hCF := X.1
  obtain ⟨⟨hx, hb, hml, hown, hts⟩, hK, hA⟩ := X
  have hl : lv_has ls 5 [(0, .ref (a 0)), (1, .int v1), (2, .int v2), (3, .int (bi v3))] := hl
  replace hS : HS D A H0 (WU cI cJ a u ++ []) H0 [] := hS.cast (List.append_nil _).symm
  refine lv_aload_n hx hb dL_stock_0 rfl (lv_at hl 0 rfl) ?_
  refine lv_iload_n hx hb dL_stock_1 rfl (lv_at hl 1 rfl) ?_
  refine lv_iload_n hx hb dL_stock_2 rfl (lv_at hl 2 rfl) ?_
  refine lv_iload_n hx hb dL_stock_3 rfl (lv_at hl 3 rfl) ?_
  refine dX_stock hCF hK hA hfl hE hZ9 v1 v2 v3 (cwV 3 hts (TBL_V mw_191 mw_192 mw_193 mw_2 mw_194) rfl rfl rfl pmX5_stock ⟨Nat.le_of_ble_eq_true rfl, Nat.le_of_ble_eq_true rfl⟩) hu hS hl.1 (Nat.le_of_ble_eq_true rfl) ⟨Nat.le_of_ble_eq_true rfl, Nat.le_of_ble_eq_true rfl⟩ dL_stock_4 (fun H locs q9 ce u' hth ho hS hce hcv hcl => ?_) (fun H locs u' h0 ho hS => ?_)
  · have eth : (aStock Z v1 v2 v3).1 = 1 := by have := th_stock Z v1 v2 v3; omega
    rw [eth] at hcl
    refine vx_catch (own := RL) (name := exNm 1) hown [] ⟨0, 8, 9, 14⟩ [] htab (fun _ h => absurd h List.not_mem_nil) rfl (by decide) (hts (.classLink RL 14 "java/lang/IllegalArgumentException") (List.mem_cons_of_mem _ mw_164)) (hE.word (exF (k := 1) (by decide)).2.2.2.2.2.2 args) hce hcv hcl ?_
    refine lv_astore (lv' := [(4, .ref q9), (0, .ref (a 0)), (1, .int v1), (2, .int v2), (3, .int (bi v3))]) hx hb dL_stock_9 hl (by decide) rfl (fun ls hl => ?_)
    refine lv_ldc (v := -99999999) hx hb hown (hts (.constant RL 16 (-99999999)) (List.mem_cons_of_mem _ mw_3)) dL_stock_11 ?_
    rw [List.append_nil] at hS
    exact kret _ _ _ _ _ u' (by unfold ansA; rw [if_neg (fun z => by rw [z] at eth; exact absurd eth (by decide))]) ho hS dL_stock_13
  · refine lv_iconst (v := (nI 0)) hx hb dL_stock_7 (by decide) ?_
    rw [List.append_nil] at hS
    exact kret _ _ _ _ _ u' (by unfold ansA; rw [if_pos h0]; unfold aStock; split <;> rfl) ho hS dL_stock_8
abbrev wtL_deal : List Cond := Cond.codeWith yL_deal cL_deal 4 (some .int) [(0, 6, 7, 14)] :: TBL
set_option maxHeartbeats 4000000 in
set_option maxRecDepth 100000 in
theorem hA_deal (l : Launch) (D : va_G) (cI cJ : ClassId) (hfl : l.stackTraces = false) (a : Nat → Nat) {Z : AS} {u : PC} (hu : okU Z u) (v1 : Int32) (v2 : Int32) : CtU l D [(cI, .int), (cJ, .long)] yL_deal wtL_deal ({ frames := 7, cells := 1, slots := 6, locals := 116 } : Room) [.ref (a 0), .int v1, .int v2] (WU cI cJ a u) (WU cI cJ a) (okU (aDeal Z v1 v2).2.2) (ansA (aDeal Z v1 v2)) 1 6 := by
  refine CtU.of (cc := cL_deal) (maxL := 4) (hh := [(0, 6, 7, 14)]) rfl (by decide) rfl (Nat.le_of_ble_eq_true rfl) ?_
  intro p e s m args below meth c A H0 Q ls X htab hE hZ9 hS hl kret
  have hCF := X.1
  obtain ⟨⟨hx, hb, hml, hown, hts⟩, hK, hA⟩ := X
  have hl : lv_has ls 4 [(0, .ref (a 0)), (1, .int v1), (2, .int v2)] := hl
  replace hS : HS D A H0 (WU cI cJ a u ++ []) H0 [] := hS.cast (List.append_nil _).symm
  refine lv_aload_n hx hb dL_deal_0 rfl (lv_at hl 0 rfl) ?_
  refine lv_iload_n hx hb dL_deal_1 rfl (lv_at hl 1 rfl) ?_
  refine lv_iload_n hx hb dL_deal_2 rfl (lv_at hl 2 rfl) ?_
  refine dX_deal hCF hK hA hfl hE hZ9 v1 v2 (cwV 2 hts (TBL_V mw_200 mw_201 mw_202 mw_2 mw_203) rfl rfl rfl pmX5_deal ⟨Nat.le_of_ble_eq_true rfl, Nat.le_of_ble_eq_true rfl⟩) hu hS hl.1 (Nat.le_of_ble_eq_true rfl) ⟨Nat.le_of_ble_eq_true rfl, Nat.le_of_ble_eq_true rfl⟩ dL_deal_3 (fun H locs q9 ce u' hth ho hS hce hcv hcl => ?_) (fun H locs u' h0 ho hS => ?_)
  · have eth : (aDeal Z v1 v2).1 = 1 := by have := th_deal Z v1 v2; omega
    rw [eth] at hcl
    refine vx_catch (own := RL) (name := exNm 1) hown [] ⟨0, 6, 7, 14⟩ [] htab (fun _ h => absurd h List.not_mem_nil) rfl (by decide) (hts (.classLink RL 14 "java/lang/IllegalArgumentException") (List.mem_cons_of_mem _ mw_164)) (hE.word (exF (k := 1) (by decide)).2.2.2.2.2.2 args) hce hcv hcl ?_
    refine lv_astore_n (lv' := [(3, .ref q9), (0, .ref (a 0)), (1, .int v1), (2, .int v2)]) hx hb dL_deal_7 rfl hl (by decide) rfl (fun ls hl => ?_)
    refine lv_ldc (v := -99999999) hx hb hown (hts (.constant RL 16 (-99999999)) (List.mem_cons_of_mem _ mw_3)) dL_deal_8 ?_
    rw [List.append_nil] at hS
    exact kret _ _ _ _ _ u' (by unfold ansA; rw [if_neg (fun z => by rw [z] at eth; exact absurd eth (by decide))]) ho hS dL_deal_10
  · rw [List.append_nil] at hS
    exact kret _ _ _ _ _ u' (by unfold ansA; rw [if_pos h0]) ho hS dL_deal_6
abbrev wtL_numberOf : List Cond := Cond.codeWith yL_numberOf cL_numberOf 3 (some .int) [(0, 5, 6, 14)] :: TBL
set_option maxHeartbeats 4000000 in
set_option maxRecDepth 100000 in
theorem hA_numberOf (l : Launch) (D : va_G) (cI cJ : ClassId) (hfl : l.stackTraces = false) (a : Nat → Nat) {Z : AS} {u : PC} (hu : okU Z u) (v1 : Int32) : CtU l D [(cI, .int), (cJ, .long)] yL_numberOf wtL_numberOf ({ frames := 7, cells := 1, slots := 6, locals := 104 } : Room) [.ref (a 0), .int v1] (WU cI cJ a u) (WU cI cJ a) (okU Z) (ansA (aNumberOf Z v1)) 1 6 := by
  refine CtU.of (cc := cL_numberOf) (maxL := 3) (hh := [(0, 5, 6, 14)]) rfl (by decide) rfl (Nat.le_of_ble_eq_true rfl) ?_
  intro p e s m args below meth c A H0 Q ls X htab hE hZ9 hS hl kret
  have hCF := X.1
  obtain ⟨⟨hx, hb, hml, hown, hts⟩, hK, hA⟩ := X
  have hl : lv_has ls 3 [(0, .ref (a 0)), (1, .int v1)] := hl
  replace hS : HS D A H0 (WU cI cJ a u ++ []) H0 [] := hS.cast (List.append_nil _).symm
  refine lv_aload_n hx hb dL_numberOf_0 rfl (lv_at hl 0 rfl) ?_
  refine lv_iload_n hx hb dL_numberOf_1 rfl (lv_at hl 1 rfl) ?_
  refine dX_numberOf hCF hK hA hfl hE hZ9 v1 (cwV 1 hts (TBL_V mw_225 mw_226 mw_227 mw_2 mw_228) rfl rfl rfl pmX5_numberOf ⟨Nat.le_of_ble_eq_true rfl, Nat.le_of_ble_eq_true rfl⟩) hu hS hl.1 (Nat.le_of_ble_eq_true rfl) ⟨Nat.le_of_ble_eq_true rfl, Nat.le_of_ble_eq_true rfl⟩ dL_numberOf_2 (fun H locs q9 ce u' hth ho hS hce hcv hcl => ?_) (fun H locs u' h0 ho hS => ?_)
  · have eth : (aNumberOf Z v1).1 = 1 := by have := th_numberOf Z v1; omega
    rw [eth] at hcl
    refine vx_catch (own := RL) (name := exNm 1) hown [] ⟨0, 5, 6, 14⟩ [] htab (fun _ h => absurd h List.not_mem_nil) rfl (by decide) (hts (.classLink RL 14 "java/lang/IllegalArgumentException") (List.mem_cons_of_mem _ mw_164)) (hE.word (exF (k := 1) (by decide)).2.2.2.2.2.2 args) hce hcv hcl ?_
    refine lv_astore_n (lv' := [(2, .ref q9), (0, .ref (a 0)), (1, .int v1)]) hx hb dL_numberOf_6 rfl hl (by decide) rfl (fun ls hl => ?_)
    refine lv_ldc (v := -99999999) hx hb hown (hts (.constant RL 16 (-99999999)) (List.mem_cons_of_mem _ mw_3)) dL_numberOf_7 ?_
    rw [List.append_nil] at hS
    exact kret _ _ _ _ _ u' (by unfold ansA; rw [if_neg (fun z => by rw [z] at eth; exact absurd eth (by decide))]) ho hS dL_numberOf_9
  · rw [List.append_nil] at hS
    exact kret _ _ _ _ _ u' (by unfold ansA; rw [if_pos h0]) ho hS dL_numberOf_5
abbrev wtL_move : List Cond := Cond.codeWith yL_move cL_move 5 (some .int) [(0, 7, 8, 14), (0, 7, 13, 36)] :: TBL
set_option maxHeartbeats 4000000 in
set_option maxRecDepth 100000 in
theorem hA_move (l : Launch) (D : va_G) (cI cJ : ClassId) (hfl : l.stackTraces = false) (a : Nat → Nat) {Z : AS} {u : PC} (hu : okU Z u) (v1 : Int32) (v2 : Int32) (v3 : Int32) : CtU l D [(cI, .int), (cJ, .long)] yL_move wtL_move ({ frames := 7, cells := 1, slots := 6, locals := 162 } : Room) [.ref (a 0), .int v1, .int v2, .int v3] (WU cI cJ a u) (WU cI cJ a) (okU (aMove Z v1 v2 v3).2.2) (ansA (aMove Z v1 v2 v3)) 1 6 := by
  refine CtU.of (cc := cL_move) (maxL := 5) (hh := [(0, 7, 8, 14), (0, 7, 13, 36)]) rfl (by decide) rfl (Nat.le_of_ble_eq_true rfl) ?_
  intro p e s m args below meth c A H0 Q ls X htab hE hZ9 hS hl kret
  have hCF := X.1
  obtain ⟨⟨hx, hb, hml, hown, hts⟩, hK, hA⟩ := X
  have hl : lv_has ls 5 [(0, .ref (a 0)), (1, .int v1), (2, .int v2), (3, .int v3)] := hl
  replace hS : HS D A H0 (WU cI cJ a u ++ []) H0 [] := hS.cast (List.append_nil _).symm
  refine lv_aload_n hx hb dL_move_0 rfl (lv_at hl 0 rfl) ?_
  refine lv_iload_n hx hb dL_move_1 rfl (lv_at hl 1 rfl) ?_
  refine lv_iload_n hx hb dL_move_2 rfl (lv_at hl 2 rfl) ?_
  refine lv_iload_n hx hb dL_move_3 rfl (lv_at hl 3 rfl) ?_
  refine dX_move hCF hK hA hfl hE hZ9 v1 v2 v3 (cwV 3 hts (TBL_V mw_319 mw_320 mw_321 mw_2 mw_322) rfl rfl rfl pmX5_move ⟨Nat.le_of_ble_eq_true rfl, Nat.le_of_ble_eq_true rfl⟩) hu hS hl.1 (Nat.le_of_ble_eq_true rfl) ⟨Nat.le_of_ble_eq_true rfl, Nat.le_of_ble_eq_true rfl⟩ dL_move_4 (fun H locs q9 ce u' hth ho hS hce hcv hcl => ?_) (fun H locs u' h0 ho hS => ?_)
  · have e2 : (aMove Z v1 v2 v3).1 = 1 ∨ (aMove Z v1 v2 v3).1 = 2 := by have := th_move Z v1 v2 v3; omega
    rcases e2 with eth | eth
    · rw [eth] at hcl
      refine vx_catch (own := RL) (name := exNm 1) hown [] ⟨0, 7, 8, 14⟩ [⟨0, 7, 13, 36⟩] htab (fun _ h => absurd h List.not_mem_nil) rfl (by decide) (hts (.classLink RL 14 "java/lang/IllegalArgumentException") (List.mem_cons_of_mem _ mw_164)) (hE.word (exF (k := 1) (by decide)).2.2.2.2.2.2 args) hce hcv hcl ?_
      refine lv_astore (lv' := [(4, .ref q9), (0, .ref (a 0)), (1, .int v1), (2, .int v2), (3, .int v3)]) hx hb dL_move_8 hl (by decide) rfl (fun ls hl => ?_)
      refine lv_ldc (v := -99999999) hx hb hown (hts (.constant RL 16 (-99999999)) (List.mem_cons_of_mem _ mw_3)) dL_move_10 ?_
      rw [List.append_nil] at hS
      exact kret _ _ _ _ _ u' (by unfold ansA; rw [if_neg (fun z => by rw [z] at eth; exact absurd eth (by decide))]) ho hS dL_move_12
    · rw [eth] at hcl
      refine vx_catch (own := RL) (name := exNm 2) hown [⟨0, 7, 8, 14⟩] ⟨0, 7, 13, 36⟩ [] htab (fun z hz => by rw [List.mem_singleton] at hz; subst hz; exact Or.inr ⟨by decide, _, hts (.classLink RL 14 "java/lang/IllegalArgumentException") (List.mem_cons_of_mem _ mw_164), hE.2.2⟩) rfl (by decide) (hts (.classLink RL 36 "java/lang/IllegalStateException") (List.mem_cons_of_mem _ mw_318)) (hE.word (exF (k := 2) (by decide)).2.2.2.2.2.2 args) hce hcv hcl ?_
      refine lv_astore (lv' := [(4, .ref q9), (0, .ref (a 0)), (1, .int v1), (2, .int v2), (3, .int v3)]) hx hb dL_move_13 hl (by decide) rfl (fun ls hl => ?_)
      refine lv_ldc (v := -99999999) hx hb hown (hts (.constant RL 16 (-99999999)) (List.mem_cons_of_mem _ mw_3)) dL_move_15 ?_
      rw [List.append_nil] at hS
      exact kret _ _ _ _ _ u' (by unfold ansA; rw [if_neg (fun z => by rw [z] at eth; exact absurd eth (by decide))]) ho hS dL_move_17
  · rw [List.append_nil] at hS
    exact kret _ _ _ _ _ u' (by unfold ansA; rw [if_pos h0]) ho hS dL_move_7
abbrev wtL_undo : List Cond := Cond.codeWith yL_undo cL_undo 3 (some .int) [(0, 5, 6, 14)] :: TBL
set_option maxHeartbeats 4000000 in
set_option maxRecDepth 100000 in
theorem hA_undo (l : Launch) (D : va_G) (cI cJ : ClassId) (hfl : l.stackTraces = false) (a : Nat → Nat) {Z : AS} {u : PC} (hu : okU Z u) (v1 : Int32) : CtU l D [(cI, .int), (cJ, .long)] yL_undo wtL_undo ({ frames := 7, cells := 1, slots := 6, locals := 104 } : Room) [.ref (a 0), .int v1] (WU cI cJ a u) (WU cI cJ a) (okU (aUndo Z v1).2.2) (ansA (aUndo Z v1)) 1 6 := by
  refine CtU.of (cc := cL_undo) (maxL := 3) (hh := [(0, 5, 6, 14)]) rfl (by decide) rfl (Nat.le_of_ble_eq_true rfl) ?_
  intro p e s m args below meth c A H0 Q ls X htab hE hZ9 hS hl kret
  have hCF := X.1
  obtain ⟨⟨hx, hb, hml, hown, hts⟩, hK, hA⟩ := X
  have hl : lv_has ls 3 [(0, .ref (a 0)), (1, .int v1)] := hl
  replace hS : HS D A H0 (WU cI cJ a u ++ []) H0 [] := hS.cast (List.append_nil _).symm
  refine lv_aload_n hx hb dL_undo_0 rfl (lv_at hl 0 rfl) ?_
  refine lv_iload_n hx hb dL_undo_1 rfl (lv_at hl 1 rfl) ?_
  refine dX_undo hCF hK hA hfl hE hZ9 v1 (cwV 1 hts (TBL_V mw_366 mw_367 mw_368 mw_2 mw_369) rfl rfl rfl pmX5_undo ⟨Nat.le_of_ble_eq_true rfl, Nat.le_of_ble_eq_true rfl⟩) hu hS hl.1 (Nat.le_of_ble_eq_true rfl) ⟨Nat.le_of_ble_eq_true rfl, Nat.le_of_ble_eq_true rfl⟩ dL_undo_2 (fun H locs q9 ce u' hth ho hS hce hcv hcl => ?_) (fun H locs u' h0 ho hS => ?_)
  · have eth : (aUndo Z v1).1 = 1 := by have := th_undo Z v1; omega
    rw [eth] at hcl
    refine vx_catch (own := RL) (name := exNm 1) hown [] ⟨0, 5, 6, 14⟩ [] htab (fun _ h => absurd h List.not_mem_nil) rfl (by decide) (hts (.classLink RL 14 "java/lang/IllegalArgumentException") (List.mem_cons_of_mem _ mw_164)) (hE.word (exF (k := 1) (by decide)).2.2.2.2.2.2 args) hce hcv hcl ?_
    refine lv_astore_n (lv' := [(2, .ref q9), (0, .ref (a 0)), (1, .int v1)]) hx hb dL_undo_6 rfl hl (by decide) rfl (fun ls hl => ?_)
    refine lv_ldc (v := -99999999) hx hb hown (hts (.constant RL 16 (-99999999)) (List.mem_cons_of_mem _ mw_3)) dL_undo_7 ?_
    rw [List.append_nil] at hS
    exact kret _ _ _ _ _ u' (by unfold ansA; rw [if_neg (fun z => by rw [z] at eth; exact absurd eth (by decide))]) ho hS dL_undo_9
  · rw [List.append_nil] at hS
    exact kret _ _ _ _ _ u' (by unfold ansA; rw [if_pos h0]) ho hS dL_undo_5
abbrev wtL_moveAt : List Cond := Cond.codeWith yL_moveAt cL_moveAt 3 (some .int) [(0, 5, 6, 44)] :: TBL
set_option maxHeartbeats 4000000 in
set_option maxRecDepth 100000 in
theorem hA_moveAt (l : Launch) (D : va_G) (cI cJ : ClassId) (hfl : l.stackTraces = false) (a : Nat → Nat) {Z : AS} {u : PC} (hu : okU Z u) (v1 : Int32) : CtU l D [(cI, .int), (cJ, .long)] yL_moveAt wtL_moveAt ({ frames := 7, cells := 1, slots := 6, locals := 137 } : Room) [.ref (a 0), .int v1] (WU cI cJ a u) (WU cI cJ a) (okU Z) (ansA (aMoveAt Z v1)) 1 6 := by
  refine CtU.of (cc := cL_moveAt) (maxL := 3) (hh := [(0, 5, 6, 44)]) rfl (by decide) rfl (Nat.le_of_ble_eq_true rfl) ?_
  intro p e s m args below meth c A H0 Q ls X htab hE hZ9 hS hl kret
  have hCF := X.1
  obtain ⟨⟨hx, hb, hml, hown, hts⟩, hK, hA⟩ := X
  have hl : lv_has ls 3 [(0, .ref (a 0)), (1, .int v1)] := hl
  replace hS : HS D A H0 (WU cI cJ a u ++ []) H0 [] := hS.cast (List.append_nil _).symm
  refine lv_aload_n hx hb dL_moveAt_0 rfl (lv_at hl 0 rfl) ?_
  refine lv_iload_n hx hb dL_moveAt_1 rfl (lv_at hl 1 rfl) ?_
  refine dX_moveAt hCF hK hA hfl hE hZ9 v1 (cwV 1 hts (TBL_V mw_305 mw_306 mw_307 mw_2 mw_308) rfl rfl rfl pmX5_moveAt ⟨Nat.le_of_ble_eq_true rfl, Nat.le_of_ble_eq_true rfl⟩) hu hS hl.1 (Nat.le_of_ble_eq_true rfl) ⟨Nat.le_of_ble_eq_true rfl, Nat.le_of_ble_eq_true rfl⟩ dL_moveAt_2 (fun H locs q9 ce u' hth ho hS hce hcv hcl => ?_) (fun H locs u' h0 ho hS => ?_)
  · have eth : (if (aMoveAt Z v1).1 = 0 then 0 else 3) = 3 := by have := th_moveAt Z v1; omega
    rw [eth] at hcl
    refine vx_catch (own := RL) (name := exNm 3) hown [] ⟨0, 5, 6, 44⟩ [] htab (fun _ h => absurd h List.not_mem_nil) rfl (by decide) (hts (.classLink RL 44 "java/lang/IndexOutOfBoundsException") (List.mem_cons_of_mem _ mw_399)) (hE.word (exF (k := 3) (by decide)).2.2.2.2.2.2 args) hce hcv hcl ?_
    refine lv_astore_n (lv' := [(2, .ref q9), (0, .ref (a 0)), (1, .int v1)]) hx hb dL_moveAt_6 rfl hl (by decide) rfl (fun ls hl => ?_)
    refine lv_ldc (v := -99999999) hx hb hown (hts (.constant RL 16 (-99999999)) (List.mem_cons_of_mem _ mw_3)) dL_moveAt_7 ?_
    rw [List.append_nil] at hS
    exact kret _ _ _ _ _ u' (by unfold ansA; rw [if_neg (fun z => by rw [z] at eth; exact absurd eth (by decide))]) ho hS dL_moveAt_9
  · rw [List.append_nil] at hS
    exact kret _ _ _ _ _ u' (by unfold ansA; rw [if_pos (by by_cases z : (aMoveAt Z v1).1 = 0; exact z; rw [if_neg z] at h0; exact absurd h0 (by decide))]) ho hS dL_moveAt_5
abbrev wtL_card : List Cond := Cond.codeWith yL_card cL_card 4 (some .int) [(0, 6, 7, 14)] :: TBL
set_option maxHeartbeats 4000000 in
set_option maxRecDepth 100000 in
theorem hA_card (l : Launch) (D : va_G) (cI cJ : ClassId) (hfl : l.stackTraces = false) (a : Nat → Nat) {Z : AS} {u : PC} (hu : okU Z u) (v1 : Int32) (v2 : Int32) : CtU l D [(cI, .int), (cJ, .long)] yL_card wtL_card ({ frames := 7, cells := 1, slots := 6, locals := 104 } : Room) [.ref (a 0), .int v1, .int v2] (WU cI cJ a u) (WU cI cJ a) (okU Z) (ansA (aCard Z v1 v2)) 1 6 := by
  refine CtU.of (cc := cL_card) (maxL := 4) (hh := [(0, 6, 7, 14)]) rfl (by decide) rfl (Nat.le_of_ble_eq_true rfl) ?_
  intro p e s m args below meth c A H0 Q ls X htab hE hZ9 hS hl kret
  have hCF := X.1
  obtain ⟨⟨hx, hb, hml, hown, hts⟩, hK, hA⟩ := X
  have hl : lv_has ls 4 [(0, .ref (a 0)), (1, .int v1), (2, .int v2)] := hl
  replace hS : HS D A H0 (WU cI cJ a u ++ []) H0 [] := hS.cast (List.append_nil _).symm
  refine lv_aload_n hx hb dL_card_0 rfl (lv_at hl 0 rfl) ?_
  refine lv_iload_n hx hb dL_card_1 rfl (lv_at hl 1 rfl) ?_
  refine lv_iload_n hx hb dL_card_2 rfl (lv_at hl 2 rfl) ?_
  refine dX_card hCF hK hA hfl hE hZ9 v1 v2 (cwV 2 hts (TBL_V mw_486 mw_487 mw_488 mw_2 mw_489) rfl rfl rfl pmX5_card ⟨Nat.le_of_ble_eq_true rfl, Nat.le_of_ble_eq_true rfl⟩) hu hS hl.1 (Nat.le_of_ble_eq_true rfl) ⟨Nat.le_of_ble_eq_true rfl, Nat.le_of_ble_eq_true rfl⟩ dL_card_3 (fun H locs q9 ce u' hth ho hS hce hcv hcl => ?_) (fun H locs u' h0 ho hS => ?_)
  · have eth : (aCard Z v1 v2).1 = 1 := by have := th_card Z v1 v2; omega
    rw [eth] at hcl
    refine vx_catch (own := RL) (name := exNm 1) hown [] ⟨0, 6, 7, 14⟩ [] htab (fun _ h => absurd h List.not_mem_nil) rfl (by decide) (hts (.classLink RL 14 "java/lang/IllegalArgumentException") (List.mem_cons_of_mem _ mw_164)) (hE.word (exF (k := 1) (by decide)).2.2.2.2.2.2 args) hce hcv hcl ?_
    refine lv_astore_n (lv' := [(3, .ref q9), (0, .ref (a 0)), (1, .int v1), (2, .int v2)]) hx hb dL_card_7 rfl hl (by decide) rfl (fun ls hl => ?_)
    refine lv_ldc (v := -99999999) hx hb hown (hts (.constant RL 16 (-99999999)) (List.mem_cons_of_mem _ mw_3)) dL_card_8 ?_
    rw [List.append_nil] at hS
    exact kret _ _ _ _ _ u' (by unfold ansA; rw [if_neg (fun z => by rw [z] at eth; exact absurd eth (by decide))]) ho hS dL_card_10
  · rw [List.append_nil] at hS
    exact kret _ _ _ _ _ u' (by unfold ansA; rw [if_pos h0]) ho hS dL_card_6
abbrev wtL_told : List Cond := Cond.codeWith yL_told cL_told 3 (some .int) [(0, 5, 6, 14)] :: TBL
set_option maxHeartbeats 4000000 in
set_option maxRecDepth 100000 in
theorem hA_told (l : Launch) (D : va_G) (cI cJ : ClassId) (hfl : l.stackTraces = false) (a : Nat → Nat) {Z : AS} {u : PC} (hu : okU Z u) (v1 : Int32) : CtU l D [(cI, .int), (cJ, .long)] yL_told wtL_told ({ frames := 7, cells := 1, slots := 6, locals := 105 } : Room) [.ref (a 0), .int v1] (WU cI cJ a u) (WU cI cJ a) (okU Z) (ansA (aTold Z v1)) 1 6 := by
  refine CtU.of (cc := cL_told) (maxL := 3) (hh := [(0, 5, 6, 14)]) rfl (by decide) rfl (Nat.le_of_ble_eq_true rfl) ?_
  intro p e s m args below meth c A H0 Q ls X htab hE hZ9 hS hl kret
  have hCF := X.1
  obtain ⟨⟨hx, hb, hml, hown, hts⟩, hK, hA⟩ := X
  have hl : lv_has ls 3 [(0, .ref (a 0)), (1, .int v1)] := hl
  replace hS : HS D A H0 (WU cI cJ a u ++ []) H0 [] := hS.cast (List.append_nil _).symm
  refine lv_aload_n hx hb dL_told_0 rfl (lv_at hl 0 rfl) ?_
  refine lv_iload_n hx hb dL_told_1 rfl (lv_at hl 1 rfl) ?_
  refine dX_told hCF hK hA hfl hE hZ9 v1 (cwV 1 hts (TBL_V mw_462 mw_463 mw_464 mw_2 mw_465) rfl rfl rfl pmX5_told ⟨Nat.le_of_ble_eq_true rfl, Nat.le_of_ble_eq_true rfl⟩) hu hS hl.1 (Nat.le_of_ble_eq_true rfl) ⟨Nat.le_of_ble_eq_true rfl, Nat.le_of_ble_eq_true rfl⟩ dL_told_2 (fun H locs q9 ce u' hth ho hS hce hcv hcl => ?_) (fun H locs u' h0 ho hS => ?_)
  · have eth : (aTold Z v1).1 = 1 := by have := th_told Z v1; omega
    rw [eth] at hcl
    refine vx_catch (own := RL) (name := exNm 1) hown [] ⟨0, 5, 6, 14⟩ [] htab (fun _ h => absurd h List.not_mem_nil) rfl (by decide) (hts (.classLink RL 14 "java/lang/IllegalArgumentException") (List.mem_cons_of_mem _ mw_164)) (hE.word (exF (k := 1) (by decide)).2.2.2.2.2.2 args) hce hcv hcl ?_
    refine lv_astore_n (lv' := [(2, .ref q9), (0, .ref (a 0)), (1, .int v1)]) hx hb dL_told_6 rfl hl (by decide) rfl (fun ls hl => ?_)
    refine lv_ldc (v := -99999999) hx hb hown (hts (.constant RL 16 (-99999999)) (List.mem_cons_of_mem _ mw_3)) dL_told_7 ?_
    rw [List.append_nil] at hS
    exact kret _ _ _ _ _ u' (by unfold ansA; rw [if_neg (fun z => by rw [z] at eth; exact absurd eth (by decide))]) ho hS dL_told_9
  · rw [List.append_nil] at hS
    exact kret _ _ _ _ _ u' (by unfold ansA; rw [if_pos h0]) ho hS dL_told_5
abbrev wtL_search : List Cond := Cond.codeWith yL_search cL_search 3 (some .int) [(0, 5, 6, 14)] :: TBL
set_option maxHeartbeats 4000000 in
set_option maxRecDepth 100000 in
theorem hA_search (l : Launch) (D : va_G) (cI cJ : ClassId) (hfl : l.stackTraces = false) (a : Nat → Nat) {Z : AS} {u : PC} (hu : okU Z u) (v1 : Int32) : CtU l D [(cI, .int), (cJ, .long)] yL_search wtL_search ({ frames := 7, cells := 1, slots := 6, locals := 161 } : Room) [.ref (a 0), .int v1] (WU cI cJ a u) (WU cI cJ a) (okU Z) (ansA (aSearch Z v1)) 1 6 := by
  refine CtU.of (cc := cL_search) (maxL := 3) (hh := [(0, 5, 6, 14)]) rfl (by decide) rfl (Nat.le_of_ble_eq_true rfl) ?_
  intro p e s m args below meth c A H0 Q ls X htab hE hZ9 hS hl kret
  have hCF := X.1
  obtain ⟨⟨hx, hb, hml, hown, hts⟩, hK, hA⟩ := X
  have hl : lv_has ls 3 [(0, .ref (a 0)), (1, .int v1)] := hl
  replace hS : HS D A H0 (WU cI cJ a u ++ []) H0 [] := hS.cast (List.append_nil _).symm
  refine lv_aload_n hx hb dL_search_0 rfl (lv_at hl 0 rfl) ?_
  refine lv_iload_n hx hb dL_search_1 rfl (lv_at hl 1 rfl) ?_
  refine dX_search hCF hK hA hfl hE hZ9 v1 (cwV 1 hts (TBL_V mw_403 mw_404 mw_405 mw_2 mw_406) rfl rfl rfl pmX5_search ⟨Nat.le_of_ble_eq_true rfl, Nat.le_of_ble_eq_true rfl⟩) hu hS hl.1 (Nat.le_of_ble_eq_true rfl) ⟨Nat.le_of_ble_eq_true rfl, Nat.le_of_ble_eq_true rfl⟩ dL_search_2 (fun H locs q9 ce u' hth ho hS hce hcv hcl => ?_) (fun H locs u' h0 ho hS => ?_)
  · have eth : (aSearch Z v1).1 = 1 := by have := th_search Z v1; omega
    rw [eth] at hcl
    refine vx_catch (own := RL) (name := exNm 1) hown [] ⟨0, 5, 6, 14⟩ [] htab (fun _ h => absurd h List.not_mem_nil) rfl (by decide) (hts (.classLink RL 14 "java/lang/IllegalArgumentException") (List.mem_cons_of_mem _ mw_164)) (hE.word (exF (k := 1) (by decide)).2.2.2.2.2.2 args) hce hcv hcl ?_
    refine lv_astore_n (lv' := [(2, .ref q9), (0, .ref (a 0)), (1, .int v1)]) hx hb dL_search_6 rfl hl (by decide) rfl (fun ls hl => ?_)
    refine lv_ldc (v := -99999999) hx hb hown (hts (.constant RL 16 (-99999999)) (List.mem_cons_of_mem _ mw_3)) dL_search_7 ?_
    rw [List.append_nil] at hS
    exact kret _ _ _ _ _ u' (by unfold ansA; rw [if_neg (fun z => by rw [z] at eth; exact absurd eth (by decide))]) ho hS dL_search_9
  · rw [List.append_nil] at hS
    exact kret _ _ _ _ _ u' (by unfold ansA; rw [if_pos h0]) ho hS dL_search_5
abbrev wtL_known : List Cond := Cond.codeWith yL_known cL_known 3 (some .int) [(0, 5, 6, 14)] :: TBL
set_option maxHeartbeats 4000000 in
set_option maxRecDepth 100000 in
theorem hA_known (l : Launch) (D : va_G) (cI cJ : ClassId) (hfl : l.stackTraces = false) (a : Nat → Nat) {Z : AS} {u : PC} (hu : okU Z u) (v1 : Int32) : CtU l D [(cI, .int), (cJ, .long)] yL_known wtL_known ({ frames := 7, cells := 1, slots := 6, locals := 161 } : Room) [.ref (a 0), .int v1] (WU cI cJ a u) (WU cI cJ a) (okU Z) (ansA (aKnown Z v1)) 1 6 := by
  refine CtU.of (cc := cL_known) (maxL := 3) (hh := [(0, 5, 6, 14)]) rfl (by decide) rfl (Nat.le_of_ble_eq_true rfl) ?_
  intro p e s m args below meth c A H0 Q ls X htab hE hZ9 hS hl kret
  have hCF := X.1
  obtain ⟨⟨hx, hb, hml, hown, hts⟩, hK, hA⟩ := X
  have hl : lv_has ls 3 [(0, .ref (a 0)), (1, .int v1)] := hl
  replace hS : HS D A H0 (WU cI cJ a u ++ []) H0 [] := hS.cast (List.append_nil _).symm
  refine lv_aload_n hx hb dL_known_0 rfl (lv_at hl 0 rfl) ?_
  refine lv_iload_n hx hb dL_known_1 rfl (lv_at hl 1 rfl) ?_
  refine dX_known hCF hK hA hfl hE hZ9 v1 (cwV 1 hts (TBL_V mw_454 mw_455 mw_456 mw_2 mw_457) rfl rfl rfl pmX5_known ⟨Nat.le_of_ble_eq_true rfl, Nat.le_of_ble_eq_true rfl⟩) hu hS hl.1 (Nat.le_of_ble_eq_true rfl) ⟨Nat.le_of_ble_eq_true rfl, Nat.le_of_ble_eq_true rfl⟩ dL_known_2 (fun H locs q9 ce u' hth ho hS hce hcv hcl => ?_) (fun H locs u' h0 ho hS => ?_)
  · have eth : (aKnown Z v1).1 = 1 := by have := th_known Z v1; omega
    rw [eth] at hcl
    refine vx_catch (own := RL) (name := exNm 1) hown [] ⟨0, 5, 6, 14⟩ [] htab (fun _ h => absurd h List.not_mem_nil) rfl (by decide) (hts (.classLink RL 14 "java/lang/IllegalArgumentException") (List.mem_cons_of_mem _ mw_164)) (hE.word (exF (k := 1) (by decide)).2.2.2.2.2.2 args) hce hcv hcl ?_
    refine lv_astore_n (lv' := [(2, .ref q9), (0, .ref (a 0)), (1, .int v1)]) hx hb dL_known_6 rfl hl (by decide) rfl (fun ls hl => ?_)
    refine lv_ldc (v := -99999999) hx hb hown (hts (.constant RL 16 (-99999999)) (List.mem_cons_of_mem _ mw_3)) dL_known_7 ?_
    rw [List.append_nil] at hS
    exact kret _ _ _ _ _ u' (by unfold ansA; rw [if_neg (fun z => by rw [z] at eth; exact absurd eth (by decide))]) ho hS dL_known_9
  · rw [List.append_nil] at hS
    exact kret _ _ _ _ _ u' (by unfold ansA; rw [if_pos h0]) ho hS dL_known_5
abbrev wtL_odds : List Cond := Cond.codeWith yL_odds cL_odds 6 (some .int) [(0, 9, 10, 14)] :: TBL
set_option maxHeartbeats 4000000 in
set_option maxRecDepth 100000 in
theorem hA_odds (l : Launch) (D : va_G) (cI cJ : ClassId) (hfl : l.stackTraces = false) (a : Nat → Nat) {Z : AS} {u : PC} (hu : okU Z u) (v1 : Int32) (v2 : Int32) (v3 : Int32) (v4 : Int32) : CtU l D [(cI, .int), (cJ, .long)] yL_odds wtL_odds ({ frames := 7, cells := 1, slots := 6, locals := 168 } : Room) [.ref (a 0), .int v1, .int v2, .int v3, .int v4] (WU cI cJ a u) (WU cI cJ a) (okU Z) (ansA (aOdds Z v1 v2 v3 v4)) 1 6 := by
  refine CtU.of (cc := cL_odds) (maxL := 6) (hh := [(0, 9, 10, 14)]) rfl (by decide) rfl (Nat.le_of_ble_eq_true rfl) ?_
  intro p e s m args below meth c A H0 Q ls X htab hE hZ9 hS hl kret
  have hCF := X.1
  obtain ⟨⟨hx, hb, hml, hown, hts⟩, hK, hA⟩ := X
  have hl : lv_has ls 6 [(0, .ref (a 0)), (1, .int v1), (2, .int v2), (3, .int v3), (4, .int v4)] := hl
  replace hS : HS D A H0 (WU cI cJ a u ++ []) H0 [] := hS.cast (List.append_nil _).symm
  refine lv_aload_n hx hb dL_odds_0 rfl (lv_at hl 0 rfl) ?_
  refine lv_iload_n hx hb dL_odds_1 rfl (lv_at hl 1 rfl) ?_
  refine lv_iload_n hx hb dL_odds_2 rfl (lv_at hl 2 rfl) ?_
  refine lv_iload_n hx hb dL_odds_3 rfl (lv_at hl 3 rfl) ?_
  refine lv_iload hx hb dL_odds_4 (lv_at hl 4 rfl) ?_
  refine dX_odds hCF hK hA hfl hE hZ9 v1 v2 v3 v4 (cwV 4 hts (TBL_V mw_479 mw_480 mw_481 mw_2 mw_482) rfl rfl rfl pmX5_odds ⟨Nat.le_of_ble_eq_true rfl, Nat.le_of_ble_eq_true rfl⟩) hu hS hl.1 (Nat.le_of_ble_eq_true rfl) ⟨Nat.le_of_ble_eq_true rfl, Nat.le_of_ble_eq_true rfl⟩ dL_odds_6 (fun H locs q9 ce u' hth ho hS hce hcv hcl => ?_) (fun H locs u' h0 ho hS => ?_)
  · have eth : (aOdds Z v1 v2 v3 v4).1 = 1 := by have := th_odds Z v1 v2 v3 v4; omega
    rw [eth] at hcl
    refine vx_catch (own := RL) (name := exNm 1) hown [] ⟨0, 9, 10, 14⟩ [] htab (fun _ h => absurd h List.not_mem_nil) rfl (by decide) (hts (.classLink RL 14 "java/lang/IllegalArgumentException") (List.mem_cons_of_mem _ mw_164)) (hE.word (exF (k := 1) (by decide)).2.2.2.2.2.2 args) hce hcv hcl ?_
    refine lv_astore (lv' := [(5, .ref q9), (0, .ref (a 0)), (1, .int v1), (2, .int v2), (3, .int v3), (4, .int v4)]) hx hb dL_odds_10 hl (by decide) rfl (fun ls hl => ?_)
    refine lv_ldc (v := -99999999) hx hb hown (hts (.constant RL 16 (-99999999)) (List.mem_cons_of_mem _ mw_3)) dL_odds_12 ?_
    rw [List.append_nil] at hS
    exact kret _ _ _ _ _ u' (by unfold ansA; rw [if_neg (fun z => by rw [z] at eth; exact absurd eth (by decide))]) ho hS dL_odds_14
  · rw [List.append_nil] at hS
    exact kret _ _ _ _ _ u' (by unfold ansA; rw [if_pos h0]) ho hS dL_odds_9
