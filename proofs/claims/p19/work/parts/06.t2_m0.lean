set_option maxHeartbeats 4000000 in
set_option maxRecDepth 100000 in
theorem c_X5_deck (l : Launch) (D : va_G) (cI cJ : ClassId) (hfl : l.stackTraces = false) (h_0 h_0_nextRules g_0_rules g_0_now g_0_past g_0_searcher g_0_dealt g_0_tried : Nat) (P_0 : Nat → Int32) (r_0_nextRules : Nat → Int32) (v1 : Int32) (v2 : Int32) (th : Nat) (rv : Int32) (r_r_0_nextRules : Nat → Int32) (hF : F_X5_deck P_0 r_0_nextRules v1 v2 = some (th, rv, r_r_0_nextRules)) : CtXI l D [(cI, .int), (cJ, .long)] yX5_deck wtX5_deck ({ frames := 6, cells := 1, slots := 6, locals := 82 } : Room) [.ref h_0, .int v1, .int v2] [(h_0, oX5 h_0_nextRules g_0_rules g_0_now g_0_past g_0_searcher g_0_dealt g_0_tried P_0), (h_0_nextRules, oX1 r_0_nextRules)] [(h_0, oX5 h_0_nextRules g_0_rules g_0_now g_0_past g_0_searcher g_0_dealt g_0_tried P_0), (h_0_nextRules, oX1 r_r_0_nextRules)] [(h_0, oX5 h_0_nextRules g_0_rules g_0_now g_0_past g_0_searcher g_0_dealt g_0_tried P_0), (h_0_nextRules, oX1 r_r_0_nextRules)] th rv := by
  refine CtXI.of (cc := cX5_deck) (maxL := 4) hfl rfl (by decide) rfl (Nat.le_of_ble_eq_true rfl) ⟨rfl, rfl, Nat.le_of_ble_eq_true rfl, Nat.le_of_ble_eq_true rfl⟩ ?_
  intro p e s m args below meth c A H0 Q ls X hS hl kret kthr
  have hCF := X.1
  obtain ⟨⟨hx, hb, hml, hown, hts⟩, hK, hA⟩ := X
  have hl : lv_has ls 4 [(0, .ref h_0), (1, .int v1), (2, .int v2)] := hl
  have q0 := hts (.fieldLink RX5 10 "Patiencery" "nextRules" "LPatiencery$Rules;") (List.mem_cons_of_mem _ mw_13)
  have inX5 : ∀ w ∈ u_ws RX5 TX5 10, w ∈ wtX5_deck := fun w h => List.mem_cons_of_mem _ (inlX5 w h)
  have q2 := hts (.fieldLink RX5 77 "Patiencery$Rules" "inStock" "I") (List.mem_cons_of_mem _ mw_171)
  have inX1 : ∀ w ∈ u_ws RX1 TX1 9, w ∈ wtX5_deck := fun w h => List.mem_cons_of_mem _ (inlX1 w h)
  have q4 := hts (.fieldLink RX5 82 "Patiencery$Rules" "suits" "I") (List.mem_cons_of_mem _ mw_172)
  have q5 := hts (.fieldLink RX5 85 "Patiencery$Rules" "ranks" "I") (List.mem_cons_of_mem _ mw_173)
  unfold F_X5_deck at hF
  refine lv_iload_n hx hb dX5_deck_0 rfl (lv_at hl 1 rfl) ?_
  refine lv_iconst (v := (nI 1)) hx hb dX5_deck_1 (by decide) ?_
  refine lv_iconst (v := (nI 4)) hx hb dX5_deck_2 (by decide) ?_
  replace hF := cal1_e hF
  obtain ⟨x1, hc2, hF⟩ := hF
  refine kS_i (As := [.int v1, .int (nI 1), .int (nI 4)]) (rest := []) (wr := [(h_0, oX5 h_0_nextRules g_0_rules g_0_now g_0_past g_0_searcher g_0_dealt g_0_tried P_0), (h_0_nextRules, oX1 r_0_nextRules)]) (w2 := [(h_0, oX5 h_0_nextRules g_0_rules g_0_now g_0_past g_0_searcher g_0_dealt g_0_tried P_0), (h_0_nextRules, oX1 r_0_nextRules)]) hCF hK (c_X5_isWithin l D cI cJ v1 (nI 1) (nI 4) x1 hc2) (va_cwS 3 hts (TBL_S mw_174 mw_175 mw_2 mw_176) rfl rfl rfl pmX5_isWithin.2 ⟨Nat.le_of_ble_eq_true rfl, Nat.le_of_ble_eq_true rfl⟩) hS hA [] [0, 1] rfl rfl rfl rfl (by decide) rfl hl.1 rfl (Nat.le_of_ble_eq_true rfl) ⟨Nat.zero_le _, Nat.zero_le _⟩ dX5_deck_3 rfl (fun H locs hS => ?_)
  refine lv_if_eq (tgt := 19) hx hb dX5_deck_6 (by decide) (fun c_3 => ?_) (fun c_3 => ?_)
  · replace hF := ifp hF c_3
    have e9_0 := Option.some.inj hF
    obtain ⟨f9_0, e9_1⟩ := Prod.mk.inj e9_0
    obtain ⟨f9_1, e9_2⟩ := Prod.mk.inj e9_1
    subst f9_0
    subst f9_1
    subst e9_2
    exact kthr 1 72 _ _ _ _ _ rfl (by decide) (List.mem_of_getElem? (i := 0) rfl) hS hl.1 dX5_deck_19 dX5_deck_22 dX5_deck_23 dX5_deck_25 dX5_deck_28
  · replace hF := ifn hF c_3
    refine lv_iload_n hx hb dX5_deck_9 rfl (lv_at hl 2 rfl) ?_
    refine lv_iconst (v := (nI 1)) hx hb dX5_deck_10 (by decide) ?_
    refine lv_bipush (v := (nI 6)) hx hb dX5_deck_11 (by decide) ?_
    replace hF := cal1_e hF
    obtain ⟨x4, hc5, hF⟩ := hF
    refine kS_i (As := [.int v2, .int (nI 1), .int (nI 6)]) (rest := []) (wr := [(h_0, oX5 h_0_nextRules g_0_rules g_0_now g_0_past g_0_searcher g_0_dealt g_0_tried P_0), (h_0_nextRules, oX1 r_0_nextRules)]) (w2 := [(h_0, oX5 h_0_nextRules g_0_rules g_0_now g_0_past g_0_searcher g_0_dealt g_0_tried P_0), (h_0_nextRules, oX1 r_0_nextRules)]) hCF hK (c_X5_isWithin l D cI cJ v2 (nI 1) (nI 6) x4 hc5) (va_cwS 3 hts (TBL_S mw_174 mw_175 mw_2 mw_176) rfl rfl rfl pmX5_isWithin.2 ⟨Nat.le_of_ble_eq_true rfl, Nat.le_of_ble_eq_true rfl⟩) hS hA [] [0, 1] rfl rfl rfl rfl (by decide) rfl hl.1 rfl (Nat.le_of_ble_eq_true rfl) ⟨Nat.zero_le _, Nat.zero_le _⟩ dX5_deck_13 rfl (fun H locs hS => ?_)
    refine lv_if_ne (tgt := 29) hx hb dX5_deck_16 (by decide) (fun c_6 => ?_) (fun c_6 => ?_)
    · replace hF := ifn hF c_6
      refine lv_iload_n hx hb dX5_deck_29 rfl (lv_at hl 1 rfl) ?_
      refine lv_iload_n hx hb dX5_deck_30 rfl (lv_at hl 2 rfl) ?_
      refine lv_imul hx hb dX5_deck_31 ?_
      refine lv_istore_n (lv' := [(3, .int (v1 * v2)), (0, .ref h_0), (1, .int v1), (2, .int v2)]) hx hb dX5_deck_32 rfl hl (by decide) rfl (fun ls hl => ?_)
      refine lv_iload_n hx hb dX5_deck_33 rfl (lv_at hl 0 rfl) ?_
      refine lv_iconst (v := (nI 2)) hx hb dX5_deck_34 (by decide) ?_
      refine lv_bipush (v := (nI 16)) hx hb dX5_deck_35 (by decide) ?_
      replace hF := cal1_e hF
      obtain ⟨x7, hc8, hF⟩ := hF
      refine kS_i (As := [.int (v1 * v2), .int (nI 2), .int (nI 16)]) (rest := []) (wr := [(h_0, oX5 h_0_nextRules g_0_rules g_0_now g_0_past g_0_searcher g_0_dealt g_0_tried P_0), (h_0_nextRules, oX1 r_0_nextRules)]) (w2 := [(h_0, oX5 h_0_nextRules g_0_rules g_0_now g_0_past g_0_searcher g_0_dealt g_0_tried P_0), (h_0_nextRules, oX1 r_0_nextRules)]) hCF hK (c_X5_isWithin l D cI cJ (v1 * v2) (nI 2) (nI 16) x7 hc8) (va_cwS 3 hts (TBL_S mw_174 mw_175 mw_2 mw_176) rfl rfl rfl pmX5_isWithin.2 ⟨Nat.le_of_ble_eq_true rfl, Nat.le_of_ble_eq_true rfl⟩) hS hA [] [0, 1] rfl rfl rfl rfl (by decide) rfl hl.1 rfl (Nat.le_of_ble_eq_true rfl) ⟨Nat.zero_le _, Nat.zero_le _⟩ dX5_deck_37 rfl (fun H locs hS => ?_)
      refine lv_if_eq (tgt := 54) hx hb dX5_deck_40 (by decide) (fun c_9 => ?_) (fun c_9 => ?_)
      · replace hF := ifp hF c_9
        have e9_0 := Option.some.inj hF
        obtain ⟨f9_0, e9_1⟩ := Prod.mk.inj e9_0
        obtain ⟨f9_1, e9_2⟩ := Prod.mk.inj e9_1
        subst f9_0
        subst f9_1
        subst e9_2
        exact kthr 1 80 _ _ _ _ _ rfl (by decide) (List.mem_of_getElem? (i := 1) rfl) hS hl.1 dX5_deck_54 dX5_deck_57 dX5_deck_58 dX5_deck_60 dX5_deck_63
      · replace hF := ifn hF c_9
        refine lv_iload_n hx hb dX5_deck_43 rfl (lv_at hl 0 rfl) ?_
        refine lv_aload_n hx hb dX5_deck_44 rfl (lv_at hl 1 rfl) ?_
        refine r_get hx hb hts inX5 hown hK hS 0 0 rfl rfl (by decide) q0 rfl dX5_deck_45 ?_
        refine r_get hx hb hts inX1 hown hK hS 1 6 rfl rfl (by decide) q2 rfl dX5_deck_48 ?_
        refine lv_icmp_gt (tgt := 64) hx hb dX5_deck_51 (by decide) (fun c_10 => ?_) (fun c_10 => ?_)
        · replace hF := ifp hF c_10
          refine lv_aload_n hx hb dX5_deck_64 rfl (lv_at hl 1 rfl) ?_
          refine r_get hx hb hts inX5 hown hK hS 0 0 rfl rfl (by decide) q0 rfl dX5_deck_65 ?_
          refine lv_iload_n hx hb dX5_deck_68 rfl (lv_at hl 2 rfl) ?_
          replace hF := bnd_e hF
          obtain ⟨r_0_nextRulesu11, er_0_nextRulesu11, hF⟩ := hF
          refine r_put (w2 := [(h_0, oX5 h_0_nextRules g_0_rules g_0_now g_0_past g_0_searcher g_0_dealt g_0_tried P_0), (h_0_nextRules, oX1 r_0_nextRulesu11)]) hx hb hts inX1 tyX1 tyX1_ok nmX1 hown hK hS 1 0 rfl rfl (by decide) q4 rfl rfl rfl (Nat.le_of_ble_eq_true rfl) dX5_deck_69 (by rw [er_0_nextRulesu11]; rfl) (fun H locs hS => ?_)
          refine lv_aload_n hx hb dX5_deck_72 rfl (lv_at hl 1 rfl) ?_
          refine r_get hx hb hts inX5 hown hK hS 0 0 rfl rfl (by decide) q0 rfl dX5_deck_73 ?_
          refine lv_iload_n hx hb dX5_deck_76 rfl (lv_at hl 3 rfl) ?_
          replace hF := bnd_e hF
          obtain ⟨r_0_nextRulesu12, er_0_nextRulesu12, hF⟩ := hF
          refine r_put (w2 := [(h_0, oX5 h_0_nextRules g_0_rules g_0_now g_0_past g_0_searcher g_0_dealt g_0_tried P_0), (h_0_nextRules, oX1 r_0_nextRulesu12)]) hx hb hts inX1 tyX1 tyX1_ok nmX1 hown hK hS 1 1 rfl rfl (by decide) q5 rfl rfl rfl (Nat.le_of_ble_eq_true rfl) dX5_deck_77 (by rw [er_0_nextRulesu12]; rfl) (fun H locs hS => ?_)
          refine lv_iload_n hx hb dX5_deck_80 rfl (lv_at hl 0 rfl) ?_
          have e9_0 := Option.some.inj hF
          obtain ⟨f9_0, e9_1⟩ := Prod.mk.inj e9_0
          obtain ⟨f9_1, e9_2⟩ := Prod.mk.inj e9_1
          subst f9_0
          subst f9_1
          subst e9_2
          exact kret _ _ _ _ rfl hS dX5_deck_81
        · replace hF := ifn hF c_10
          have e9_0 := Option.some.inj hF
          obtain ⟨f9_0, e9_1⟩ := Prod.mk.inj e9_0
          obtain ⟨f9_1, e9_2⟩ := Prod.mk.inj e9_1
          subst f9_0
          subst f9_1
          subst e9_2
          exact kthr 1 80 _ _ _ _ _ rfl (by decide) (List.mem_of_getElem? (i := 1) rfl) hS hl.1 dX5_deck_54 dX5_deck_57 dX5_deck_58 dX5_deck_60 dX5_deck_63
    · replace hF := ifp hF c_6
      have e9_0 := Option.some.inj hF
      obtain ⟨f9_0, e9_1⟩ := Prod.mk.inj e9_0
      obtain ⟨f9_1, e9_2⟩ := Prod.mk.inj e9_1
      subst f9_0
      subst f9_1
      subst e9_2
      exact kthr 1 72 _ _ _ _ _ rfl (by decide) (List.mem_of_getElem? (i := 0) rfl) hS hl.1 dX5_deck_19 dX5_deck_22 dX5_deck_23 dX5_deck_25 dX5_deck_28
set_option maxHeartbeats 4000000 in
set_option maxRecDepth 100000 in
theorem c_X5_table (l : Launch) (D : va_G) (cI cJ : ClassId) (hfl : l.stackTraces = false) (h_0 h_0_nextRules g_0_rules g_0_now g_0_past g_0_searcher g_0_dealt g_0_tried : Nat) (P_0 : Nat → Int32) (r_0_nextRules : Nat → Int32) (v1 : Int32) (v2 : Int32) (v3 : Int32) (v4 : Int32) (th : Nat) (r_r_0_nextRules : Nat → Int32) (hF : F_X5_table P_0 r_0_nextRules v1 v2 v3 v4 = some (th, r_r_0_nextRules)) : CtXV l D [(cI, .int), (cJ, .long)] yX5_table wtX5_table ({ frames := 6, cells := 1, slots := 6, locals := 82 } : Room) [.ref h_0, .int v1, .int v2, .int v3, .int v4] [(h_0, oX5 h_0_nextRules g_0_rules g_0_now g_0_past g_0_searcher g_0_dealt g_0_tried P_0), (h_0_nextRules, oX1 r_0_nextRules)] [(h_0, oX5 h_0_nextRules g_0_rules g_0_now g_0_past g_0_searcher g_0_dealt g_0_tried P_0), (h_0_nextRules, oX1 r_r_0_nextRules)] [(h_0, oX5 h_0_nextRules g_0_rules g_0_now g_0_past g_0_searcher g_0_dealt g_0_tried P_0), (h_0_nextRules, oX1 r_r_0_nextRules)] th := by
  refine CtXV.of (cc := cX5_table) (maxL := 5) hfl rfl (by decide) rfl (Nat.le_of_ble_eq_true rfl) ⟨rfl, rfl, Nat.le_of_ble_eq_true rfl, Nat.le_of_ble_eq_true rfl⟩ ?_
  intro p e s m args below meth c A H0 Q ls X hS hl kret kthr
  have hCF := X.1
  obtain ⟨⟨hx, hb, hml, hown, hts⟩, hK, hA⟩ := X
  have hl : lv_has ls 5 [(0, .ref h_0), (1, .int v1), (2, .int v2), (3, .int v3), (4, .int v4)] := hl
  have q0 := hts (.fieldLink RX5 10 "Patiencery" "nextRules" "LPatiencery$Rules;") (List.mem_cons_of_mem _ mw_13)
  have inX5 : ∀ w ∈ u_ws RX5 TX5 10, w ∈ wtX5_table := fun w h => List.mem_cons_of_mem _ (inlX5 w h)
  have q2 := hts (.fieldLink RX5 92 "Patiencery$Rules" "columns" "I") (List.mem_cons_of_mem _ mw_184)
  have inX1 : ∀ w ∈ u_ws RX1 TX1 9, w ∈ wtX5_table := fun w h => List.mem_cons_of_mem _ (inlX1 w h)
  have q4 := hts (.fieldLink RX5 95 "Patiencery$Rules" "cells" "I") (List.mem_cons_of_mem _ mw_185)
  have q5 := hts (.fieldLink RX5 98 "Patiencery$Rules" "build" "I") (List.mem_cons_of_mem _ mw_186)
  have q6 := hts (.fieldLink RX5 101 "Patiencery$Rules" "empty" "I") (List.mem_cons_of_mem _ mw_187)
  unfold F_X5_table at hF
  refine lv_iload_n hx hb dX5_table_0 rfl (lv_at hl 1 rfl) ?_
  refine lv_iconst (v := (nI 1)) hx hb dX5_table_1 (by decide) ?_
  refine lv_iconst (v := (nI 5)) hx hb dX5_table_2 (by decide) ?_
  replace hF := cal1_e hF
  obtain ⟨x1, hc2, hF⟩ := hF
  refine kS_i (As := [.int v1, .int (nI 1), .int (nI 5)]) (rest := []) (wr := [(h_0, oX5 h_0_nextRules g_0_rules g_0_now g_0_past g_0_searcher g_0_dealt g_0_tried P_0), (h_0_nextRules, oX1 r_0_nextRules)]) (w2 := [(h_0, oX5 h_0_nextRules g_0_rules g_0_now g_0_past g_0_searcher g_0_dealt g_0_tried P_0), (h_0_nextRules, oX1 r_0_nextRules)]) hCF hK (c_X5_isWithin l D cI cJ v1 (nI 1) (nI 5) x1 hc2) (va_cwS 3 hts (TBL_S mw_174 mw_175 mw_2 mw_176) rfl rfl rfl pmX5_isWithin.2 ⟨Nat.le_of_ble_eq_true rfl, Nat.le_of_ble_eq_true rfl⟩) hS hA [] [0, 1] rfl rfl rfl rfl (by decide) rfl hl.1 rfl (Nat.le_of_ble_eq_true rfl) ⟨Nat.zero_le _, Nat.zero_le _⟩ dX5_table_3 rfl (fun H locs hS => ?_)
  refine lv_if_eq (tgt := 18) hx hb dX5_table_6 (by decide) (fun c_3 => ?_) (fun c_3 => ?_)
  · replace hF := ifp hF c_3
    have e9_0 := Option.some.inj hF
    obtain ⟨f9_0, e9_1⟩ := Prod.mk.inj e9_0
    subst f9_0
    subst e9_1
    exact kthr 1 88 _ _ _ _ _ rfl (by decide) (List.mem_of_getElem? (i := 2) rfl) hS hl.1 dX5_table_18 dX5_table_21 dX5_table_22 dX5_table_24 dX5_table_27
  · replace hF := ifn hF c_3
    refine lv_iload_n hx hb dX5_table_9 rfl (lv_at hl 2 rfl) ?_
    refine lv_iconst (v := (nI 0)) hx hb dX5_table_10 (by decide) ?_
    refine lv_iconst (v := (nI 2)) hx hb dX5_table_11 (by decide) ?_
    replace hF := cal1_e hF
    obtain ⟨x4, hc5, hF⟩ := hF
    refine kS_i (As := [.int v2, .int (nI 0), .int (nI 2)]) (rest := []) (wr := [(h_0, oX5 h_0_nextRules g_0_rules g_0_now g_0_past g_0_searcher g_0_dealt g_0_tried P_0), (h_0_nextRules, oX1 r_0_nextRules)]) (w2 := [(h_0, oX5 h_0_nextRules g_0_rules g_0_now g_0_past g_0_searcher g_0_dealt g_0_tried P_0), (h_0_nextRules, oX1 r_0_nextRules)]) hCF hK (c_X5_isWithin l D cI cJ v2 (nI 0) (nI 2) x4 hc5) (va_cwS 3 hts (TBL_S mw_174 mw_175 mw_2 mw_176) rfl rfl rfl pmX5_isWithin.2 ⟨Nat.le_of_ble_eq_true rfl, Nat.le_of_ble_eq_true rfl⟩) hS hA [] [0, 1] rfl rfl rfl rfl (by decide) rfl hl.1 rfl (Nat.le_of_ble_eq_true rfl) ⟨Nat.zero_le _, Nat.zero_le _⟩ dX5_table_12 rfl (fun H locs hS => ?_)
    refine lv_if_ne (tgt := 28) hx hb dX5_table_15 (by decide) (fun c_6 => ?_) (fun c_6 => ?_)
    · replace hF := ifn hF c_6
      refine lv_iload_n hx hb dX5_table_28 rfl (lv_at hl 3 rfl) ?_
      refine lv_iconst (v := (nI 0)) hx hb dX5_table_29 (by decide) ?_
      refine lv_iconst (v := (nI 2)) hx hb dX5_table_30 (by decide) ?_
      replace hF := cal1_e hF
      obtain ⟨x7, hc8, hF⟩ := hF
      refine kS_i (As := [.int v3, .int (nI 0), .int (nI 2)]) (rest := []) (wr := [(h_0, oX5 h_0_nextRules g_0_rules g_0_now g_0_past g_0_searcher g_0_dealt g_0_tried P_0), (h_0_nextRules, oX1 r_0_nextRules)]) (w2 := [(h_0, oX5 h_0_nextRules g_0_rules g_0_now g_0_past g_0_searcher g_0_dealt g_0_tried P_0), (h_0_nextRules, oX1 r_0_nextRules)]) hCF hK (c_X5_isWithin l D cI cJ v3 (nI 0) (nI 2) x7 hc8) (va_cwS 3 hts (TBL_S mw_174 mw_175 mw_2 mw_176) rfl rfl rfl pmX5_isWithin.2 ⟨Nat.le_of_ble_eq_true rfl, Nat.le_of_ble_eq_true rfl⟩) hS hA [] [0, 1] rfl rfl rfl rfl (by decide) rfl hl.1 rfl (Nat.le_of_ble_eq_true rfl) ⟨Nat.zero_le _, Nat.zero_le _⟩ dX5_table_31 rfl (fun H locs hS => ?_)
      refine lv_if_eq (tgt := 47) hx hb dX5_table_34 (by decide) (fun c_9 => ?_) (fun c_9 => ?_)
      · replace hF := ifp hF c_9
        have e9_0 := Option.some.inj hF
        obtain ⟨f9_0, e9_1⟩ := Prod.mk.inj e9_0
        subst f9_0
        subst e9_1
        exact kthr 1 90 _ _ _ _ _ rfl (by decide) (List.mem_of_getElem? (i := 3) rfl) hS hl.1 dX5_table_47 dX5_table_50 dX5_table_51 dX5_table_53 dX5_table_56
      · replace hF := ifn hF c_9
        refine lv_iload hx hb dX5_table_37 (lv_at hl 4 rfl) ?_
        refine lv_iconst (v := (nI 0)) hx hb dX5_table_39 (by decide) ?_
        refine lv_iconst (v := (nI 2)) hx hb dX5_table_40 (by decide) ?_
        replace hF := cal1_e hF
        obtain ⟨x10, hc11, hF⟩ := hF
        refine kS_i (As := [.int v4, .int (nI 0), .int (nI 2)]) (rest := []) (wr := [(h_0, oX5 h_0_nextRules g_0_rules g_0_now g_0_past g_0_searcher g_0_dealt g_0_tried P_0), (h_0_nextRules, oX1 r_0_nextRules)]) (w2 := [(h_0, oX5 h_0_nextRules g_0_rules g_0_now g_0_past g_0_searcher g_0_dealt g_0_tried P_0), (h_0_nextRules, oX1 r_0_nextRules)]) hCF hK (c_X5_isWithin l D cI cJ v4 (nI 0) (nI 2) x10 hc11) (va_cwS 3 hts (TBL_S mw_174 mw_175 mw_2 mw_176) rfl rfl rfl pmX5_isWithin.2 ⟨Nat.le_of_ble_eq_true rfl, Nat.le_of_ble_eq_true rfl⟩) hS hA [] [0, 1] rfl rfl rfl rfl (by decide) rfl hl.1 rfl (Nat.le_of_ble_eq_true rfl) ⟨Nat.zero_le _, Nat.zero_le _⟩ dX5_table_41 rfl (fun H locs hS => ?_)
        refine lv_if_ne (tgt := 57) hx hb dX5_table_44 (by decide) (fun c_12 => ?_) (fun c_12 => ?_)
        · replace hF := ifn hF c_12
          refine lv_aload_n hx hb dX5_table_57 rfl (lv_at hl 0 rfl) ?_
          refine r_get hx hb hts inX5 hown hK hS 0 0 rfl rfl (by decide) q0 rfl dX5_table_58 ?_
          refine lv_iload_n hx hb dX5_table_61 rfl (lv_at hl 1 rfl) ?_
          replace hF := bnd_e hF
          obtain ⟨r_0_nextRulesu13, er_0_nextRulesu13, hF⟩ := hF
          refine r_put (w2 := [(h_0, oX5 h_0_nextRules g_0_rules g_0_now g_0_past g_0_searcher g_0_dealt g_0_tried P_0), (h_0_nextRules, oX1 r_0_nextRulesu13)]) hx hb hts inX1 tyX1 tyX1_ok nmX1 hown hK hS 1 2 rfl rfl (by decide) q2 rfl rfl rfl (Nat.le_of_ble_eq_true rfl) dX5_table_62 (by rw [er_0_nextRulesu13]; rfl) (fun H locs hS => ?_)
          refine lv_aload_n hx hb dX5_table_65 rfl (lv_at hl 0 rfl) ?_
          refine r_get hx hb hts inX5 hown hK hS 0 0 rfl rfl (by decide) q0 rfl dX5_table_66 ?_
          refine lv_iload_n hx hb dX5_table_69 rfl (lv_at hl 2 rfl) ?_
          replace hF := bnd_e hF
          obtain ⟨r_0_nextRulesu14, er_0_nextRulesu14, hF⟩ := hF
          refine r_put (w2 := [(h_0, oX5 h_0_nextRules g_0_rules g_0_now g_0_past g_0_searcher g_0_dealt g_0_tried P_0), (h_0_nextRules, oX1 r_0_nextRulesu14)]) hx hb hts inX1 tyX1 tyX1_ok nmX1 hown hK hS 1 3 rfl rfl (by decide) q4 rfl rfl rfl (Nat.le_of_ble_eq_true rfl) dX5_table_70 (by rw [er_0_nextRulesu14]; rfl) (fun H locs hS => ?_)
          refine lv_aload_n hx hb dX5_table_73 rfl (lv_at hl 0 rfl) ?_
          refine r_get hx hb hts inX5 hown hK hS 0 0 rfl rfl (by decide) q0 rfl dX5_table_74 ?_
          refine lv_iload_n hx hb dX5_table_77 rfl (lv_at hl 3 rfl) ?_
          replace hF := bnd_e hF
          obtain ⟨r_0_nextRulesu15, er_0_nextRulesu15, hF⟩ := hF
          refine r_put (w2 := [(h_0, oX5 h_0_nextRules g_0_rules g_0_now g_0_past g_0_searcher g_0_dealt g_0_tried P_0), (h_0_nextRules, oX1 r_0_nextRulesu15)]) hx hb hts inX1 tyX1 tyX1_ok nmX1 hown hK hS 1 4 rfl rfl (by decide) q5 rfl rfl rfl (Nat.le_of_ble_eq_true rfl) dX5_table_78 (by rw [er_0_nextRulesu15]; rfl) (fun H locs hS => ?_)
          refine lv_aload_n hx hb dX5_table_81 rfl (lv_at hl 0 rfl) ?_
          refine r_get hx hb hts inX5 hown hK hS 0 0 rfl rfl (by decide) q0 rfl dX5_table_82 ?_
          refine lv_iload hx hb dX5_table_85 (lv_at hl 4 rfl) ?_
          replace hF := bnd_e hF
          obtain ⟨r_0_nextRulesu16, er_0_nextRulesu16, hF⟩ := hF
          refine r_put (w2 := [(h_0, oX5 h_0_nextRules g_0_rules g_0_now g_0_past g_0_searcher g_0_dealt g_0_tried P_0), (h_0_nextRules, oX1 r_0_nextRulesu16)]) hx hb hts inX1 tyX1 tyX1_ok nmX1 hown hK hS 1 5 rfl rfl (by decide) q6 rfl rfl rfl (Nat.le_of_ble_eq_true rfl) dX5_table_87 (by rw [er_0_nextRulesu16]; rfl) (fun H locs hS => ?_)
          have e9_0 := Option.some.inj hF
          obtain ⟨f9_0, e9_1⟩ := Prod.mk.inj e9_0
          subst f9_0
          subst e9_1
          exact kret _ _ _ _ rfl hS dX5_table_90
        · replace hF := ifp hF c_12
          have e9_0 := Option.some.inj hF
          obtain ⟨f9_0, e9_1⟩ := Prod.mk.inj e9_0
          subst f9_0
          subst e9_1
          exact kthr 1 90 _ _ _ _ _ rfl (by decide) (List.mem_of_getElem? (i := 3) rfl) hS hl.1 dX5_table_47 dX5_table_50 dX5_table_51 dX5_table_53 dX5_table_56
    · replace hF := ifp hF c_6
      have e9_0 := Option.some.inj hF
      obtain ⟨f9_0, e9_1⟩ := Prod.mk.inj e9_0
      subst f9_0
      subst e9_1
      exact kthr 1 88 _ _ _ _ _ rfl (by decide) (List.mem_of_getElem? (i := 2) rfl) hS hl.1 dX5_table_18 dX5_table_21 dX5_table_22 dX5_table_24 dX5_table_27
set_option maxHeartbeats 4000000 in
set_option maxRecDepth 100000 in
theorem c_X5_stock (l : Launch) (D : va_G) (cI cJ : ClassId) (hfl : l.stackTraces = false) (h_0 h_0_nextRules g_0_rules g_0_now g_0_past g_0_searcher g_0_dealt g_0_tried : Nat) (P_0 : Nat → Int32) (r_0_nextRules : Nat → Int32) (v1 : Int32) (v2 : Int32) (v3 : Int32) (th : Nat) (r_r_0_nextRules : Nat → Int32) (hF : F_X5_stock P_0 r_0_nextRules v1 v2 v3 = some (th, r_r_0_nextRules)) : CtXV l D [(cI, .int), (cJ, .long)] yX5_stock wtX5_stock ({ frames := 6, cells := 1, slots := 6, locals := 82 } : Room) [.ref h_0, .int v1, .int v2, .int v3] [(h_0, oX5 h_0_nextRules g_0_rules g_0_now g_0_past g_0_searcher g_0_dealt g_0_tried P_0), (h_0_nextRules, oX1 r_0_nextRules)] [(h_0, oX5 h_0_nextRules g_0_rules g_0_now g_0_past g_0_searcher g_0_dealt g_0_tried P_0), (h_0_nextRules, oX1 r_r_0_nextRules)] [(h_0, oX5 h_0_nextRules g_0_rules g_0_now g_0_past g_0_searcher g_0_dealt g_0_tried P_0), (h_0_nextRules, oX1 r_r_0_nextRules)] th := by
  refine CtXV.of (cc := cX5_stock) (maxL := 4) hfl rfl (by decide) rfl (Nat.le_of_ble_eq_true rfl) ⟨rfl, rfl, Nat.le_of_ble_eq_true rfl, Nat.le_of_ble_eq_true rfl⟩ ?_
  intro p e s m args below meth c A H0 Q ls X hS hl kret kthr
  have hCF := X.1
  obtain ⟨⟨hx, hb, hml, hown, hts⟩, hK, hA⟩ := X
  have hl : lv_has ls 4 [(0, .ref h_0), (1, .int v1), (2, .int v2), (3, .int v3)] := hl
  have q0 := hts (.fieldLink RX5 10 "Patiencery" "nextRules" "LPatiencery$Rules;") (List.mem_cons_of_mem _ mw_13)
  have inX5 : ∀ w ∈ u_ws RX5 TX5 10, w ∈ wtX5_stock := fun w h => List.mem_cons_of_mem _ (inlX5 w h)
  have q2 := hts (.fieldLink RX5 77 "Patiencery$Rules" "inStock" "I") (List.mem_cons_of_mem _ mw_171)
  have inX1 : ∀ w ∈ u_ws RX1 TX1 9, w ∈ wtX5_stock := fun w h => List.mem_cons_of_mem _ (inlX1 w h)
  have q4 := hts (.fieldLink RX5 112 "Patiencery$Rules" "again" "I") (List.mem_cons_of_mem _ mw_195)
  have q5 := hts (.fieldLink RX5 115 "Patiencery$Rules" "isHidden" "Z") (List.mem_cons_of_mem _ mw_196)
  unfold F_X5_stock at hF
  refine lv_iload_n hx hb dX5_stock_0 rfl (lv_at hl 1 rfl) ?_
  refine lv_iconst (v := (nI 0)) hx hb dX5_stock_1 (by decide) ?_
  refine lv_bipush (v := (nI 8)) hx hb dX5_stock_2 (by decide) ?_
  replace hF := cal1_e hF
  obtain ⟨x1, hc2, hF⟩ := hF
  refine kS_i (As := [.int v1, .int (nI 0), .int (nI 8)]) (rest := []) (wr := [(h_0, oX5 h_0_nextRules g_0_rules g_0_now g_0_past g_0_searcher g_0_dealt g_0_tried P_0), (h_0_nextRules, oX1 r_0_nextRules)]) (w2 := [(h_0, oX5 h_0_nextRules g_0_rules g_0_now g_0_past g_0_searcher g_0_dealt g_0_tried P_0), (h_0_nextRules, oX1 r_0_nextRules)]) hCF hK (c_X5_isWithin l D cI cJ v1 (nI 0) (nI 8) x1 hc2) (va_cwS 3 hts (TBL_S mw_174 mw_175 mw_2 mw_176) rfl rfl rfl pmX5_isWithin.2 ⟨Nat.le_of_ble_eq_true rfl, Nat.le_of_ble_eq_true rfl⟩) hS hA [] [0, 1] rfl rfl rfl rfl (by decide) rfl hl.1 rfl (Nat.le_of_ble_eq_true rfl) ⟨Nat.zero_le _, Nat.zero_le _⟩ dX5_stock_4 rfl (fun H locs hS => ?_)
  refine lv_if_eq (tgt := 19) hx hb dX5_stock_7 (by decide) (fun c_3 => ?_) (fun c_3 => ?_)
  · replace hF := ifp hF c_3
    have e9_0 := Option.some.inj hF
    obtain ⟨f9_0, e9_1⟩ := Prod.mk.inj e9_0
    subst f9_0
    subst e9_1
    exact kthr 1 104 _ _ _ _ _ rfl (by decide) (List.mem_of_getElem? (i := 4) rfl) hS hl.1 dX5_stock_19 dX5_stock_22 dX5_stock_23 dX5_stock_25 dX5_stock_28
  · replace hF := ifn hF c_3
    refine lv_iload_n hx hb dX5_stock_10 rfl (lv_at hl 2 rfl) ?_
    refine lv_iconst (v := (nI 0)) hx hb dX5_stock_11 (by decide) ?_
    refine lv_iconst (v := (nI 2)) hx hb dX5_stock_12 (by decide) ?_
    replace hF := cal1_e hF
    obtain ⟨x4, hc5, hF⟩ := hF
    refine kS_i (As := [.int v2, .int (nI 0), .int (nI 2)]) (rest := []) (wr := [(h_0, oX5 h_0_nextRules g_0_rules g_0_now g_0_past g_0_searcher g_0_dealt g_0_tried P_0), (h_0_nextRules, oX1 r_0_nextRules)]) (w2 := [(h_0, oX5 h_0_nextRules g_0_rules g_0_now g_0_past g_0_searcher g_0_dealt g_0_tried P_0), (h_0_nextRules, oX1 r_0_nextRules)]) hCF hK (c_X5_isWithin l D cI cJ v2 (nI 0) (nI 2) x4 hc5) (va_cwS 3 hts (TBL_S mw_174 mw_175 mw_2 mw_176) rfl rfl rfl pmX5_isWithin.2 ⟨Nat.le_of_ble_eq_true rfl, Nat.le_of_ble_eq_true rfl⟩) hS hA [] [0, 1] rfl rfl rfl rfl (by decide) rfl hl.1 rfl (Nat.le_of_ble_eq_true rfl) ⟨Nat.zero_le _, Nat.zero_le _⟩ dX5_stock_13 rfl (fun H locs hS => ?_)
    refine lv_if_ne (tgt := 29) hx hb dX5_stock_16 (by decide) (fun c_6 => ?_) (fun c_6 => ?_)
    · replace hF := ifn hF c_6
      refine lv_iload_n hx hb dX5_stock_29 rfl (lv_at hl 1 rfl) ?_
      refine lv_aload_n hx hb dX5_stock_30 rfl (lv_at hl 0 rfl) ?_
      refine r_get hx hb hts inX5 hown hK hS 0 0 rfl rfl (by decide) q0 rfl dX5_stock_31 ?_
      replace hF := cal1_e hF
      obtain ⟨x7, hc8, hF⟩ := hF
      refine kV_i (As := []) (rest := [.int v1]) (wr := [(h_0, oX5 h_0_nextRules g_0_rules g_0_now g_0_past g_0_searcher g_0_dealt g_0_tried P_0)]) (w2 := [(h_0, oX5 h_0_nextRules g_0_rules g_0_now g_0_past g_0_searcher g_0_dealt g_0_tried P_0), (h_0_nextRules, oX1 r_0_nextRules)]) hCF hK (c_X1_cards l D cI cJ h_0_nextRules r_0_nextRules x7 hc8) (cwV 0 hts (TBL_V mw_93 mw_94 mw_95 mw_12 mw_96) rfl rfl rfl pmX1_cards ⟨Nat.le_of_ble_eq_true rfl, Nat.le_of_ble_eq_true rfl⟩) hS hA [1] [0] rfl rfl rfl rfl (by decide) rfl rfl rfl hl.1 rfl (Nat.le_of_ble_eq_true rfl) ⟨Nat.zero_le _, Nat.zero_le _⟩ dX5_stock_34 rfl (fun H locs hS => ?_)
      refine lv_icmp_lt (tgt := 50) hx hb dX5_stock_37 (by decide) (fun c_9 => ?_) (fun c_9 => ?_)
      · replace hF := ifp hF c_9
        refine lv_aload_n hx hb dX5_stock_50 rfl (lv_at hl 0 rfl) ?_
        refine r_get hx hb hts inX5 hown hK hS 0 0 rfl rfl (by decide) q0 rfl dX5_stock_51 ?_
        refine lv_iload_n hx hb dX5_stock_54 rfl (lv_at hl 1 rfl) ?_
        replace hF := bnd_e hF
        obtain ⟨r_0_nextRulesu10, er_0_nextRulesu10, hF⟩ := hF
        refine r_put (w2 := [(h_0, oX5 h_0_nextRules g_0_rules g_0_now g_0_past g_0_searcher g_0_dealt g_0_tried P_0), (h_0_nextRules, oX1 r_0_nextRulesu10)]) hx hb hts inX1 tyX1 tyX1_ok nmX1 hown hK hS 1 6 rfl rfl (by decide) q2 rfl rfl rfl (Nat.le_of_ble_eq_true rfl) dX5_stock_55 (by rw [er_0_nextRulesu10]; rfl) (fun H locs hS => ?_)
        refine lv_aload_n hx hb dX5_stock_58 rfl (lv_at hl 0 rfl) ?_
        refine r_get hx hb hts inX5 hown hK hS 0 0 rfl rfl (by decide) q0 rfl dX5_stock_59 ?_
        refine lv_iload_n hx hb dX5_stock_62 rfl (lv_at hl 2 rfl) ?_
        replace hF := bnd_e hF
        obtain ⟨r_0_nextRulesu11, er_0_nextRulesu11, hF⟩ := hF
        refine r_put (w2 := [(h_0, oX5 h_0_nextRules g_0_rules g_0_now g_0_past g_0_searcher g_0_dealt g_0_tried P_0), (h_0_nextRules, oX1 r_0_nextRulesu11)]) hx hb hts inX1 tyX1 tyX1_ok nmX1 hown hK hS 1 7 rfl rfl (by decide) q4 rfl rfl rfl (Nat.le_of_ble_eq_true rfl) dX5_stock_63 (by rw [er_0_nextRulesu11]; rfl) (fun H locs hS => ?_)
        refine lv_aload_n hx hb dX5_stock_66 rfl (lv_at hl 0 rfl) ?_
        refine r_get hx hb hts inX5 hown hK hS 0 0 rfl rfl (by decide) q0 rfl dX5_stock_67 ?_
        refine lv_iload_n hx hb dX5_stock_70 rfl (lv_at hl 3 rfl) ?_
        replace hF := zb_e hF
        obtain ⟨h01_13, hF⟩ := hF
        replace hF := bnd_e hF
        obtain ⟨r_0_nextRulesu12, er_0_nextRulesu12, hF⟩ := hF
        refine r_put (w2 := [(h_0, oX5 h_0_nextRules g_0_rules g_0_now g_0_past g_0_searcher g_0_dealt g_0_tried P_0), (h_0_nextRules, oX1 r_0_nextRulesu12)]) hx hb hts inX1 tyX1 tyX1_ok nmX1 hown hK hS 1 8 rfl rfl (by decide) q5 rfl (by rcases h01_13 with h | h <;> rw [h] <;> decide) (by rcases h01_13 with h | h <;> rw [h] <;> decide) (Nat.le_of_ble_eq_true rfl) dX5_stock_71 (by rw [er_0_nextRulesu12]; rfl) (fun H locs hS => ?_)
        have e9_0 := Option.some.inj hF
        obtain ⟨f9_0, e9_1⟩ := Prod.mk.inj e9_0
        subst f9_0
        subst e9_1
        exact kret _ _ _ _ rfl hS dX5_stock_74
      · replace hF := ifn hF c_9
        have e9_0 := Option.some.inj hF
        obtain ⟨f9_0, e9_1⟩ := Prod.mk.inj e9_0
        subst f9_0
        subst e9_1
        exact kthr 1 110 _ _ _ _ _ rfl (by decide) (List.mem_of_getElem? (i := 5) rfl) hS hl.1 dX5_stock_40 dX5_stock_43 dX5_stock_44 dX5_stock_46 dX5_stock_49
    · replace hF := ifp hF c_6
      have e9_0 := Option.some.inj hF
      obtain ⟨f9_0, e9_1⟩ := Prod.mk.inj e9_0
      subst f9_0
      subst e9_1
      exact kthr 1 104 _ _ _ _ _ rfl (by decide) (List.mem_of_getElem? (i := 4) rfl) hS hl.1 dX5_stock_19 dX5_stock_22 dX5_stock_23 dX5_stock_25 dX5_stock_28
set_option maxHeartbeats 4000000 in
set_option maxRecDepth 100000 in
theorem c_X5_deal (l : Launch) (D : va_G) (cI cJ : ClassId) (hfl : l.stackTraces = false) (h_0 h_0_now h_0_now_lies h_0_now_tops h_0_now_list h_0_rules h_0_nextRules h_0_dealt h_0_dealt_row h_0_dealt_taken g_0_past g_0_searcher g_0_tried : Nat) (r_0_nextRules : Nat → Int32) (P_0 : Nat → Int32) (T_0_now : Nat → Nat → Int32) (r_0_rules : Nat → Int32) (D_0_dealt : Nat → Nat → Int32) (v1 : Int32) (v2 : Int32) (th : Nat) (rv : Int32) (r_P_0 : Nat → Int32) (r_T_0_now : Nat → Nat → Int32) (r_r_0_rules : Nat → Int32) (r_D_0_dealt : Nat → Nat → Int32) (hF : F_X5_deal r_0_nextRules P_0 T_0_now r_0_rules D_0_dealt v1 v2 = some (th, rv, r_P_0, r_T_0_now, r_r_0_rules, r_D_0_dealt)) : CtXI l D [(cI, .int), (cJ, .long)] yX5_deal wtX5_deal ({ frames := 6, cells := 1, slots := 6, locals := 94 } : Room) [.ref h_0, .int v1, .int v2] [(h_0, oX5 h_0_nextRules h_0_rules h_0_now g_0_past g_0_searcher h_0_dealt g_0_tried P_0), (h_0_now, oX4 h_0_rules h_0_now_lies h_0_now_tops h_0_now_list T_0_now), (h_0_now_lies, eI cI 16 (T_0_now 1)), (h_0_now_tops, eI cI 10 (T_0_now 2)), (h_0_now_list, eI cI 160 (T_0_now 3)), (h_0_rules, oX1 r_0_rules), (h_0_nextRules, oX1 r_0_nextRules), (h_0_dealt, oX0 h_0_dealt_row h_0_dealt_taken), (h_0_dealt_row, eI cI 16 (D_0_dealt 0)), (h_0_dealt_taken, eI cI 16 (D_0_dealt 1))] [(h_0, oX5 h_0_nextRules h_0_rules h_0_now g_0_past g_0_searcher h_0_dealt g_0_tried r_P_0), (h_0_now, oX4 h_0_rules h_0_now_lies h_0_now_tops h_0_now_list r_T_0_now), (h_0_now_lies, eI cI 16 (r_T_0_now 1)), (h_0_now_tops, eI cI 10 (r_T_0_now 2)), (h_0_now_list, eI cI 160 (r_T_0_now 3)), (h_0_rules, oX1 r_r_0_rules), (h_0_nextRules, oX1 r_0_nextRules), (h_0_dealt, oX0 h_0_dealt_row h_0_dealt_taken), (h_0_dealt_row, eI cI 16 (r_D_0_dealt 0)), (h_0_dealt_taken, eI cI 16 (r_D_0_dealt 1))] [(h_0, oX5 h_0_nextRules h_0_rules h_0_now g_0_past g_0_searcher h_0_dealt g_0_tried r_P_0), (h_0_now, oX4 h_0_rules h_0_now_lies h_0_now_tops h_0_now_list r_T_0_now), (h_0_now_lies, eI cI 16 (r_T_0_now 1)), (h_0_now_tops, eI cI 10 (r_T_0_now 2)), (h_0_now_list, eI cI 160 (r_T_0_now 3)), (h_0_rules, oX1 r_r_0_rules), (h_0_nextRules, oX1 r_0_nextRules), (h_0_dealt, oX0 h_0_dealt_row h_0_dealt_taken), (h_0_dealt_row, eI cI 16 (r_D_0_dealt 0)), (h_0_dealt_taken, eI cI 16 (r_D_0_dealt 1))] th rv := by
  refine CtXI.of (cc := cX5_deal) (maxL := 3) hfl rfl (by decide) rfl (Nat.le_of_ble_eq_true rfl) ⟨rfl, rfl, Nat.le_of_ble_eq_true rfl, Nat.le_of_ble_eq_true rfl⟩ ?_
  intro p e s m args below meth c A H0 Q ls X hS hl kret kthr
  have hCF := X.1
  obtain ⟨⟨hx, hb, hml, hown, hts⟩, hK, hA⟩ := X
  have hl : lv_has ls 3 [(0, .ref h_0), (1, .int v1), (2, .int v2)] := hl
  have q0 := hts (.constant RX5 119 (1000000)) (List.mem_cons_of_mem _ mw_204)
  have q1 := hts (.fieldLink RX5 59 "Patiencery" "moneyOfOlderDeals" "I") (List.mem_cons_of_mem _ mw_34)
  have inX5 : ∀ w ∈ u_ws RX5 TX5 10, w ∈ wtX5_deal := fun w h => List.mem_cons_of_mem _ (inlX5 w h)
  have q3 := hts (.fieldLink RX5 16 "Patiencery" "rules" "LPatiencery$Rules;") (List.mem_cons_of_mem _ mw_14)
  have q4 := hts (.fieldLink RX5 10 "Patiencery" "nextRules" "LPatiencery$Rules;") (List.mem_cons_of_mem _ mw_13)
  unfold F_X5_deal at hF
  refine lv_iload_n hx hb dX5_deal_0 rfl (lv_at hl 1 rfl) ?_
  refine lv_iconst (v := (nI 0)) hx hb dX5_deal_1 (by decide) ?_
  refine lv_iconst (v := (nI 1)) hx hb dX5_deal_2 (by decide) ?_
  replace hF := cal1_e hF
  obtain ⟨x1, hc2, hF⟩ := hF
  refine kS_i (As := [.int v1, .int (nI 0), .int (nI 1)]) (rest := []) (wr := [(h_0, oX5 h_0_nextRules h_0_rules h_0_now g_0_past g_0_searcher h_0_dealt g_0_tried P_0), (h_0_now, oX4 h_0_rules h_0_now_lies h_0_now_tops h_0_now_list T_0_now), (h_0_now_lies, eI cI 16 (T_0_now 1)), (h_0_now_tops, eI cI 10 (T_0_now 2)), (h_0_now_list, eI cI 160 (T_0_now 3)), (h_0_rules, oX1 r_0_rules), (h_0_nextRules, oX1 r_0_nextRules), (h_0_dealt, oX0 h_0_dealt_row h_0_dealt_taken), (h_0_dealt_row, eI cI 16 (D_0_dealt 0)), (h_0_dealt_taken, eI cI 16 (D_0_dealt 1))]) (w2 := [(h_0, oX5 h_0_nextRules h_0_rules h_0_now g_0_past g_0_searcher h_0_dealt g_0_tried P_0), (h_0_now, oX4 h_0_rules h_0_now_lies h_0_now_tops h_0_now_list T_0_now), (h_0_now_lies, eI cI 16 (T_0_now 1)), (h_0_now_tops, eI cI 10 (T_0_now 2)), (h_0_now_list, eI cI 160 (T_0_now 3)), (h_0_rules, oX1 r_0_rules), (h_0_nextRules, oX1 r_0_nextRules), (h_0_dealt, oX0 h_0_dealt_row h_0_dealt_taken), (h_0_dealt_row, eI cI 16 (D_0_dealt 0)), (h_0_dealt_taken, eI cI 16 (D_0_dealt 1))]) hCF hK (c_X5_isWithin l D cI cJ v1 (nI 0) (nI 1) x1 hc2) (va_cwS 3 hts (TBL_S mw_174 mw_175 mw_2 mw_176) rfl rfl rfl pmX5_isWithin.2 ⟨Nat.le_of_ble_eq_true rfl, Nat.le_of_ble_eq_true rfl⟩) hS hA [] [0, 1, 2, 3, 4, 5, 6, 7, 8, 9] rfl rfl rfl rfl (by decide) rfl hl.1 rfl (Nat.le_of_ble_eq_true rfl) ⟨Nat.zero_le _, Nat.zero_le _⟩ dX5_deal_3 rfl (fun H locs hS => ?_)
  refine lv_if_eq (tgt := 19) hx hb dX5_deal_6 (by decide) (fun c_3 => ?_) (fun c_3 => ?_)
  · replace hF := ifp hF c_3
    have e9_0 := Option.some.inj hF
    obtain ⟨f9_0, e9_1⟩ := Prod.mk.inj e9_0
    obtain ⟨f9_1, e9_2⟩ := Prod.mk.inj e9_1
    obtain ⟨f9_2, e9_3⟩ := Prod.mk.inj e9_2
    obtain ⟨f9_3, e9_4⟩ := Prod.mk.inj e9_3
    obtain ⟨f9_4, e9_5⟩ := Prod.mk.inj e9_4
    subst f9_0
    subst f9_1
    subst f9_2
    subst f9_3
    subst f9_4
    subst e9_5
    exact kthr 1 120 _ _ _ _ _ rfl (by decide) (List.mem_of_getElem? (i := 6) rfl) hS hl.1 dX5_deal_19 dX5_deal_22 dX5_deal_23 dX5_deal_25 dX5_deal_28
  · replace hF := ifn hF c_3
    refine lv_iload_n hx hb dX5_deal_9 rfl (lv_at hl 2 rfl) ?_
    refine lv_iconst (v := (nI 0)) hx hb dX5_deal_10 (by decide) ?_
    refine lv_ldc (v := (nI 1000000)) hx hb hown q0 dX5_deal_11 ?_
    replace hF := cal1_e hF
    obtain ⟨x4, hc5, hF⟩ := hF
    refine kS_i (As := [.int v2, .int (nI 0), .int (nI 1000000)]) (rest := []) (wr := [(h_0, oX5 h_0_nextRules h_0_rules h_0_now g_0_past g_0_searcher h_0_dealt g_0_tried P_0), (h_0_now, oX4 h_0_rules h_0_now_lies h_0_now_tops h_0_now_list T_0_now), (h_0_now_lies, eI cI 16 (T_0_now 1)), (h_0_now_tops, eI cI 10 (T_0_now 2)), (h_0_now_list, eI cI 160 (T_0_now 3)), (h_0_rules, oX1 r_0_rules), (h_0_nextRules, oX1 r_0_nextRules), (h_0_dealt, oX0 h_0_dealt_row h_0_dealt_taken), (h_0_dealt_row, eI cI 16 (D_0_dealt 0)), (h_0_dealt_taken, eI cI 16 (D_0_dealt 1))]) (w2 := [(h_0, oX5 h_0_nextRules h_0_rules h_0_now g_0_past g_0_searcher h_0_dealt g_0_tried P_0), (h_0_now, oX4 h_0_rules h_0_now_lies h_0_now_tops h_0_now_list T_0_now), (h_0_now_lies, eI cI 16 (T_0_now 1)), (h_0_now_tops, eI cI 10 (T_0_now 2)), (h_0_now_list, eI cI 160 (T_0_now 3)), (h_0_rules, oX1 r_0_rules), (h_0_nextRules, oX1 r_0_nextRules), (h_0_dealt, oX0 h_0_dealt_row h_0_dealt_taken), (h_0_dealt_row, eI cI 16 (D_0_dealt 0)), (h_0_dealt_taken, eI cI 16 (D_0_dealt 1))]) hCF hK (c_X5_isWithin l D cI cJ v2 (nI 0) (nI 1000000) x4 hc5) (va_cwS 3 hts (TBL_S mw_174 mw_175 mw_2 mw_176) rfl rfl rfl pmX5_isWithin.2 ⟨Nat.le_of_ble_eq_true rfl, Nat.le_of_ble_eq_true rfl⟩) hS hA [] [0, 1, 2, 3, 4, 5, 6, 7, 8, 9] rfl rfl rfl rfl (by decide) rfl hl.1 rfl (Nat.le_of_ble_eq_true rfl) ⟨Nat.zero_le _, Nat.zero_le _⟩ dX5_deal_13 rfl (fun H locs hS => ?_)
    refine lv_if_ne (tgt := 29) hx hb dX5_deal_16 (by decide) (fun c_6 => ?_) (fun c_6 => ?_)
    · replace hF := ifn hF c_6
      refine lv_aload_n hx hb dX5_deal_29 rfl (lv_at hl 0 rfl) ?_
      refine lv_dup hx hb dX5_deal_30 rfl ?_
      refine r_get hx hb hts inX5 hown hK hS 0 9 rfl rfl (by decide) q1 rfl dX5_deal_31 ?_
      refine lv_aload_n hx hb dX5_deal_34 rfl (lv_at hl 0 rfl) ?_
      replace hF := cal1_e hF
      obtain ⟨x7, hc8, hF⟩ := hF
      refine kV_i (As := []) (rest := [.int (P_0 9), .ref h_0]) (wr := [(h_0_nextRules, oX1 r_0_nextRules), (h_0_dealt, oX0 h_0_dealt_row h_0_dealt_taken), (h_0_dealt_row, eI cI 16 (D_0_dealt 0)), (h_0_dealt_taken, eI cI 16 (D_0_dealt 1))]) (w2 := [(h_0_nextRules, oX1 r_0_nextRules), (h_0_dealt, oX0 h_0_dealt_row h_0_dealt_taken), (h_0_dealt_row, eI cI 16 (D_0_dealt 0)), (h_0_dealt_taken, eI cI 16 (D_0_dealt 1)), (h_0, oX5 h_0_nextRules h_0_rules h_0_now g_0_past g_0_searcher h_0_dealt g_0_tried P_0), (h_0_now, oX4 h_0_rules h_0_now_lies h_0_now_tops h_0_now_list T_0_now), (h_0_now_lies, eI cI 16 (T_0_now 1)), (h_0_now_tops, eI cI 10 (T_0_now 2)), (h_0_now_list, eI cI 160 (T_0_now 3)), (h_0_rules, oX1 r_0_rules)]) hCF hK (c_X5_moneyOfDeal l D cI cJ h_0 h_0_now h_0_now_lies h_0_now_tops h_0_now_list h_0_rules h_0_nextRules g_0_past g_0_searcher h_0_dealt g_0_tried P_0 T_0_now r_0_rules x7 hc8) (cwV 0 hts (TBL_V mw_205 mw_206 mw_207 mw_2 mw_208) rfl rfl rfl pmX5_moneyOfDeal ⟨Nat.le_of_ble_eq_true rfl, Nat.le_of_ble_eq_true rfl⟩) hS hA [0, 1, 2, 3, 4, 5] [6, 7, 8, 9] rfl rfl rfl rfl (by decide) rfl rfl rfl hl.1 rfl (Nat.le_of_ble_eq_true rfl) ⟨Nat.zero_le _, Nat.zero_le _⟩ dX5_deal_35 rfl (fun H locs hS => ?_)
      refine lv_iadd hx hb dX5_deal_38 ?_
      replace hF := bnd_e hF
      obtain ⟨P_0u9, eP_0u9, hF⟩ := hF
      refine r_put (w2 := [(h_0_nextRules, oX1 r_0_nextRules), (h_0_dealt, oX0 h_0_dealt_row h_0_dealt_taken), (h_0_dealt_row, eI cI 16 (D_0_dealt 0)), (h_0_dealt_taken, eI cI 16 (D_0_dealt 1)), (h_0, oX5 h_0_nextRules h_0_rules h_0_now g_0_past g_0_searcher h_0_dealt g_0_tried P_0u9), (h_0_now, oX4 h_0_rules h_0_now_lies h_0_now_tops h_0_now_list T_0_now), (h_0_now_lies, eI cI 16 (T_0_now 1)), (h_0_now_tops, eI cI 10 (T_0_now 2)), (h_0_now_list, eI cI 160 (T_0_now 3)), (h_0_rules, oX1 r_0_rules)]) hx hb hts inX5 tyX5 tyX5_ok nmX5 hown hK hS 4 9 rfl rfl (by decide) q1 rfl rfl rfl (Nat.le_of_ble_eq_true rfl) dX5_deal_39 (by rw [eP_0u9]; rfl) (fun H locs hS => ?_)
      refine lv_aload_n hx hb dX5_deal_42 rfl (lv_at hl 0 rfl) ?_
      refine r_get hx hb hts inX5 hown hK hS 4 1 rfl rfl (by decide) q3 rfl dX5_deal_43 ?_
      refine lv_aload_n hx hb dX5_deal_46 rfl (lv_at hl 0 rfl) ?_
      refine r_get hx hb hts inX5 hown hK hS 4 0 rfl rfl (by decide) q4 rfl dX5_deal_47 ?_
      replace hF := cal1_e hF
      obtain ⟨r_0_rulesu10, hc11, hF⟩ := hF
      refine kV_v (As := [.ref h_0_nextRules]) (rest := []) (wr := [(h_0_dealt, oX0 h_0_dealt_row h_0_dealt_taken), (h_0_dealt_row, eI cI 16 (D_0_dealt 0)), (h_0_dealt_taken, eI cI 16 (D_0_dealt 1)), (h_0, oX5 h_0_nextRules h_0_rules h_0_now g_0_past g_0_searcher h_0_dealt g_0_tried P_0u9), (h_0_now, oX4 h_0_rules h_0_now_lies h_0_now_tops h_0_now_list T_0_now), (h_0_now_lies, eI cI 16 (T_0_now 1)), (h_0_now_tops, eI cI 10 (T_0_now 2)), (h_0_now_list, eI cI 160 (T_0_now 3))]) (w2 := [(h_0_dealt, oX0 h_0_dealt_row h_0_dealt_taken), (h_0_dealt_row, eI cI 16 (D_0_dealt 0)), (h_0_dealt_taken, eI cI 16 (D_0_dealt 1)), (h_0, oX5 h_0_nextRules h_0_rules h_0_now g_0_past g_0_searcher h_0_dealt g_0_tried P_0u9), (h_0_now, oX4 h_0_rules h_0_now_lies h_0_now_tops h_0_now_list T_0_now), (h_0_now_lies, eI cI 16 (T_0_now 1)), (h_0_now_tops, eI cI 10 (T_0_now 2)), (h_0_now_list, eI cI 160 (T_0_now 3)), (h_0_rules, oX1 r_0_rulesu10), (h_0_nextRules, oX1 r_0_nextRules)]) hCF hK (c_X1_copyFrom l D cI cJ h_0_rules h_0_nextRules r_0_nextRules r_0_rules r_0_rulesu10 hc11) (cwV 1 hts (TBL_V mw_217 mw_218 mw_219 mw_12 mw_220) rfl rfl rfl pmX1_copyFrom ⟨Nat.le_of_ble_eq_true rfl, Nat.le_of_ble_eq_true rfl⟩) hS hA [9, 0] [1, 2, 3, 4, 5, 6, 7, 8] rfl rfl rfl rfl (by decide) rfl rfl rfl hl.1 rfl (Nat.le_of_ble_eq_true rfl) ⟨Nat.zero_le _, Nat.zero_le _⟩ dX5_deal_50 rfl (fun H locs hS => ?_)
      refine lv_aload_n hx hb dX5_deal_53 rfl (lv_at hl 0 rfl) ?_
      refine lv_iload_n hx hb dX5_deal_54 rfl (lv_at hl 1 rfl) ?_
      refine lv_iload_n hx hb dX5_deal_55 rfl (lv_at hl 2 rfl) ?_
      replace hF := cal3_e hF
      obtain ⟨P_0u12, D_0_dealtu13, T_0_nowu14, hc15, hF⟩ := hF
      refine kV_v (As := [.int v1, .int v2]) (rest := []) (wr := [(h_0_nextRules, oX1 r_0_nextRules)]) (w2 := [(h_0_nextRules, oX1 r_0_nextRules), (h_0, oX5 h_0_nextRules h_0_rules h_0_now g_0_past g_0_searcher h_0_dealt g_0_tried P_0u12), (h_0_rules, oX1 r_0_rulesu10), (h_0_dealt, oX0 h_0_dealt_row h_0_dealt_taken), (h_0_dealt_row, eI cI 16 (D_0_dealtu13 0)), (h_0_dealt_taken, eI cI 16 (D_0_dealtu13 1)), (h_0_now, oX4 h_0_rules h_0_now_lies h_0_now_tops h_0_now_list T_0_nowu14), (h_0_now_lies, eI cI 16 (T_0_nowu14 1)), (h_0_now_tops, eI cI 10 (T_0_nowu14 2)), (h_0_now_list, eI cI 160 (T_0_nowu14 3))]) hCF hK (c_X5_dealNumber l D cI cJ h_0 h_0_rules h_0_dealt h_0_dealt_row h_0_dealt_taken h_0_now h_0_now_lies h_0_now_tops h_0_now_list h_0_nextRules g_0_past g_0_searcher g_0_tried h_0_rules r_0_rulesu10 P_0u9 D_0_dealt T_0_now v1 v2 P_0u12 D_0_dealtu13 T_0_nowu14 hc15) (cwV 2 hts (TBL_V mw_89 mw_90 mw_91 mw_2 mw_92) rfl rfl rfl pmX5_dealNumber ⟨Nat.le_of_ble_eq_true rfl, Nat.le_of_ble_eq_true rfl⟩) hS hA [3, 8, 0, 1, 2, 4, 5, 6, 7] [9] rfl rfl rfl rfl (by decide) rfl rfl rfl hl.1 rfl (Nat.le_of_ble_eq_true rfl) ⟨Nat.zero_le _, Nat.zero_le _⟩ dX5_deal_56 rfl (fun H locs hS => ?_)
      refine lv_aload_n hx hb dX5_deal_59 rfl (lv_at hl 0 rfl) ?_
      refine r_get hx hb hts inX5 hown hK hS 1 1 rfl rfl (by decide) q3 rfl dX5_deal_60 ?_
      replace hF := cal1_e hF
      obtain ⟨x16, hc17, hF⟩ := hF
      refine kV_i (As := []) (rest := []) (wr := [(h_0_nextRules, oX1 r_0_nextRules), (h_0, oX5 h_0_nextRules h_0_rules h_0_now g_0_past g_0_searcher h_0_dealt g_0_tried P_0u12), (h_0_dealt, oX0 h_0_dealt_row h_0_dealt_taken), (h_0_dealt_row, eI cI 16 (D_0_dealtu13 0)), (h_0_dealt_taken, eI cI 16 (D_0_dealtu13 1)), (h_0_now, oX4 h_0_rules h_0_now_lies h_0_now_tops h_0_now_list T_0_nowu14), (h_0_now_lies, eI cI 16 (T_0_nowu14 1)), (h_0_now_tops, eI cI 10 (T_0_nowu14 2)), (h_0_now_list, eI cI 160 (T_0_nowu14 3))]) (w2 := [(h_0_nextRules, oX1 r_0_nextRules), (h_0, oX5 h_0_nextRules h_0_rules h_0_now g_0_past g_0_searcher h_0_dealt g_0_tried P_0u12), (h_0_dealt, oX0 h_0_dealt_row h_0_dealt_taken), (h_0_dealt_row, eI cI 16 (D_0_dealtu13 0)), (h_0_dealt_taken, eI cI 16 (D_0_dealtu13 1)), (h_0_now, oX4 h_0_rules h_0_now_lies h_0_now_tops h_0_now_list T_0_nowu14), (h_0_now_lies, eI cI 16 (T_0_nowu14 1)), (h_0_now_tops, eI cI 10 (T_0_nowu14 2)), (h_0_now_list, eI cI 160 (T_0_nowu14 3)), (h_0_rules, oX1 r_0_rulesu10)]) hCF hK (c_X1_inColumns l D cI cJ h_0_rules r_0_rulesu10 x16 hc17) (cwV 0 hts (TBL_V mw_221 mw_128 mw_129 mw_12 mw_130) rfl rfl rfl pmX1_inColumns ⟨Nat.le_of_ble_eq_true rfl, Nat.le_of_ble_eq_true rfl⟩) hS hA [2] [0, 1, 3, 4, 5, 6, 7, 8, 9] rfl rfl rfl rfl (by decide) rfl rfl rfl hl.1 rfl (Nat.le_of_ble_eq_true rfl) ⟨Nat.zero_le _, Nat.zero_le _⟩ dX5_deal_63 rfl (fun H locs hS => ?_)
      have e9_0 := Option.some.inj hF
      obtain ⟨f9_0, e9_1⟩ := Prod.mk.inj e9_0
      obtain ⟨f9_1, e9_2⟩ := Prod.mk.inj e9_1
      obtain ⟨f9_2, e9_3⟩ := Prod.mk.inj e9_2
      obtain ⟨f9_3, e9_4⟩ := Prod.mk.inj e9_3
      obtain ⟨f9_4, e9_5⟩ := Prod.mk.inj e9_4
      subst f9_0
      subst f9_1
      subst f9_2
      subst f9_3
      subst f9_4
      subst e9_5
      exact kret _ _ _ _ rfl (hS.sub [1, 5, 6, 7, 8, 9, 0, 2, 3, 4] rfl rfl) dX5_deal_66
    · replace hF := ifp hF c_6
      have e9_0 := Option.some.inj hF
      obtain ⟨f9_0, e9_1⟩ := Prod.mk.inj e9_0
      obtain ⟨f9_1, e9_2⟩ := Prod.mk.inj e9_1
      obtain ⟨f9_2, e9_3⟩ := Prod.mk.inj e9_2
      obtain ⟨f9_3, e9_4⟩ := Prod.mk.inj e9_3
      obtain ⟨f9_4, e9_5⟩ := Prod.mk.inj e9_4
      subst f9_0
      subst f9_1
      subst f9_2
      subst f9_3
      subst f9_4
      subst e9_5
      exact kthr 1 120 _ _ _ _ _ rfl (by decide) (List.mem_of_getElem? (i := 6) rfl) hS hl.1 dX5_deal_19 dX5_deal_22 dX5_deal_23 dX5_deal_25 dX5_deal_28
set_option maxHeartbeats 4000000 in
set_option maxRecDepth 100000 in
theorem c_X5_numberOf (l : Launch) (D : va_G) (cI cJ : ClassId) (hfl : l.stackTraces = false) (h_0 h_0_rules h_0_tried h_0_tried_row h_0_tried_taken h_0_dealt h_0_dealt_row h_0_dealt_taken g_0_nextRules g_0_now g_0_past g_0_searcher : Nat) (P_0 : Nat → Int32) (r_0_rules : Nat → Int32) (D_0_dealt : Nat → Nat → Int32) (D_0_tried : Nat → Nat → Int32) (v1 : Int32) (th : Nat) (rv : Int32) (r_D_0_tried : Nat → Nat → Int32) (hF : F_X5_numberOf P_0 r_0_rules D_0_dealt D_0_tried v1 = some (th, rv, r_D_0_tried)) : CtXI l D [(cI, .int), (cJ, .long)] yX5_numberOf wtX5_numberOf ({ frames := 6, cells := 1, slots := 6, locals := 82 } : Room) [.ref h_0, .int v1] [(h_0, oX5 g_0_nextRules h_0_rules g_0_now g_0_past g_0_searcher h_0_dealt h_0_tried P_0), (h_0_rules, oX1 r_0_rules), (h_0_tried, oX0 h_0_tried_row h_0_tried_taken), (h_0_tried_row, eI cI 16 (D_0_tried 0)), (h_0_tried_taken, eI cI 16 (D_0_tried 1)), (h_0_dealt, oX0 h_0_dealt_row h_0_dealt_taken), (h_0_dealt_row, eI cI 16 (D_0_dealt 0)), (h_0_dealt_taken, eI cI 16 (D_0_dealt 1))] [(h_0, oX5 g_0_nextRules h_0_rules g_0_now g_0_past g_0_searcher h_0_dealt h_0_tried P_0), (h_0_rules, oX1 r_0_rules), (h_0_tried, oX0 h_0_tried_row h_0_tried_taken), (h_0_tried_row, eI cI 16 (r_D_0_tried 0)), (h_0_tried_taken, eI cI 16 (r_D_0_tried 1)), (h_0_dealt, oX0 h_0_dealt_row h_0_dealt_taken), (h_0_dealt_row, eI cI 16 (D_0_dealt 0)), (h_0_dealt_taken, eI cI 16 (D_0_dealt 1))] [(h_0, oX5 g_0_nextRules h_0_rules g_0_now g_0_past g_0_searcher h_0_dealt h_0_tried P_0), (h_0_rules, oX1 r_0_rules), (h_0_tried, oX0 h_0_tried_row h_0_tried_taken), (h_0_tried_row, eI cI 16 (r_D_0_tried 0)), (h_0_tried_taken, eI cI 16 (r_D_0_tried 1)), (h_0_dealt, oX0 h_0_dealt_row h_0_dealt_taken), (h_0_dealt_row, eI cI 16 (D_0_dealt 0)), (h_0_dealt_taken, eI cI 16 (D_0_dealt 1))] th rv := by
  refine CtXI.of (cc := cX5_numberOf) (maxL := 3) hfl rfl (by decide) rfl (Nat.le_of_ble_eq_true rfl) ⟨rfl, rfl, Nat.le_of_ble_eq_true rfl, Nat.le_of_ble_eq_true rfl⟩ ?_
  intro p e s m args below meth c A H0 Q ls X hS hl kret kthr
  have hCF := X.1
  obtain ⟨⟨hx, hb, hml, hown, hts⟩, hK, hA⟩ := X
  have hl : lv_has ls 3 [(0, .ref h_0), (1, .int v1)] := hl
  have q0 := hts (.fieldLink RX5 49 "Patiencery" "tried" "LPatiencery$Drawing;") (List.mem_cons_of_mem _ mw_31)
  have inX5 : ∀ w ∈ u_ws RX5 TX5 10, w ∈ wtX5_numberOf := fun w h => List.mem_cons_of_mem _ (inlX5 w h)
  have q2 := hts (.fieldLink RX5 16 "Patiencery" "rules" "LPatiencery$Rules;") (List.mem_cons_of_mem _ mw_14)
  have q3 := hts (.fieldLink RX5 45 "Patiencery" "dealt" "LPatiencery$Drawing;") (List.mem_cons_of_mem _ mw_30)
  have S21 : ∀ (K21 : (Nat → Nat → Int32) → Int32 → Int32 → Option (Nat × Int32 × (Nat → Nat → Int32))) (_ : ∀ (D_0_tried : Nat → Nat → Int32) (v1 : Int32) (v2 : Int32) (H : Heap) (locs : List Loc) (ls : Array Slot), HS D A H0 [(h_0, oX5 g_0_nextRules h_0_rules g_0_now g_0_past g_0_searcher h_0_dealt h_0_tried P_0), (h_0_rules, oX1 r_0_rules), (h_0_tried, oX0 h_0_tried_row h_0_tried_taken), (h_0_tried_row, eI cI 16 (D_0_tried 0)), (h_0_tried_taken, eI cI 16 (D_0_tried 1)), (h_0_dealt, oX0 h_0_dealt_row h_0_dealt_taken), (h_0_dealt_row, eI cI 16 (D_0_dealt 0)), (h_0_dealt_taken, eI cI 16 (D_0_dealt 1))] H locs → lv_has ls 3 [(0, .ref h_0), (1, .int v1), (2, .int v2)] → K21 D_0_tried v1 v2 = some (th, rv, r_D_0_tried) → W p l e ({ frames := 6, cells := 1, slots := 6, locals := 82 } : Room) s m args below meth c H locs 0 0 Q (F0 m 21 ls [])) (D_0_tried : Nat → Nat → Int32) (v1 : Int32) (v2 : Int32) (H : Heap) (locs : List Loc) (ls : Array Slot), HS D A H0 [(h_0, oX5 g_0_nextRules h_0_rules g_0_now g_0_past g_0_searcher h_0_dealt h_0_tried P_0), (h_0_rules, oX1 r_0_rules), (h_0_tried, oX0 h_0_tried_row h_0_tried_taken), (h_0_tried_row, eI cI 16 (D_0_tried 0)), (h_0_tried_taken, eI cI 16 (D_0_tried 1)), (h_0_dealt, oX0 h_0_dealt_row h_0_dealt_taken), (h_0_dealt_row, eI cI 16 (D_0_dealt 0)), (h_0_dealt_taken, eI cI 16 (D_0_dealt 1))] H locs → lv_has ls 3 [(0, .ref h_0), (1, .int v1), (2, .int v2)] → F_X5_numberOf_s21 P_0 r_0_rules D_0_dealt K21 D_0_tried v1 v2 = some (th, rv, r_D_0_tried) → W p l e ({ frames := 6, cells := 1, slots := 6, locals := 82 } : Room) s m args below meth c H locs 0 0 Q (F0 m 21 ls []) := by
    intro K21 hK21 D_0_tried v1 v2 H locs ls hS hl hF
    unfold F_X5_numberOf_s21 at hF
    refine lv_iload_n hx hb dX5_numberOf_21 rfl (lv_at hl 2 rfl) ?_
    refine lv_sipush (v := (nI 500)) hx hb dX5_numberOf_22 (by decide) ?_
    refine lv_icmp_gt (tgt := 73) hx hb dX5_numberOf_25 (by decide) (fun c_1 => ?_) (fun c_1 => ?_)
    · replace hF := ifp hF c_1
      refine lv_iconst (v := (-1)) hx hb dX5_numberOf_73 (by decide) ?_
      have e9_0 := Option.some.inj hF
      obtain ⟨f9_0, e9_1⟩ := Prod.mk.inj e9_0
      obtain ⟨f9_1, e9_2⟩ := Prod.mk.inj e9_1
      subst f9_0
      subst f9_1
      subst e9_2
      exact kret _ _ _ _ rfl hS dX5_numberOf_74
    · replace hF := ifn hF c_1
      refine lv_aload_n hx hb dX5_numberOf_28 rfl (lv_at hl 0 rfl) ?_
      refine r_get hx hb hts inX5 hown hK hS 0 6 rfl rfl (by decide) q0 rfl dX5_numberOf_29 ?_
      refine lv_iload_n hx hb dX5_numberOf_32 rfl (lv_at hl 1 rfl) ?_
      refine lv_iload_n hx hb dX5_numberOf_33 rfl (lv_at hl 2 rfl) ?_
      refine lv_aload_n hx hb dX5_numberOf_34 rfl (lv_at hl 0 rfl) ?_
      refine r_get hx hb hts inX5 hown hK hS 0 1 rfl rfl (by decide) q2 rfl dX5_numberOf_35 ?_
      replace hF := cal1_e hF
      obtain ⟨x2, hc3, hF⟩ := hF
      refine kV_i (As := []) (rest := [.int v2, .int v1, .ref h_0_tried]) (wr := [(h_0, oX5 g_0_nextRules h_0_rules g_0_now g_0_past g_0_searcher h_0_dealt h_0_tried P_0), (h_0_tried, oX0 h_0_tried_row h_0_tried_taken), (h_0_tried_row, eI cI 16 (D_0_tried 0)), (h_0_tried_taken, eI cI 16 (D_0_tried 1)), (h_0_dealt, oX0 h_0_dealt_row h_0_dealt_taken), (h_0_dealt_row, eI cI 16 (D_0_dealt 0)), (h_0_dealt_taken, eI cI 16 (D_0_dealt 1))]) (w2 := [(h_0, oX5 g_0_nextRules h_0_rules g_0_now g_0_past g_0_searcher h_0_dealt h_0_tried P_0), (h_0_tried, oX0 h_0_tried_row h_0_tried_taken), (h_0_tried_row, eI cI 16 (D_0_tried 0)), (h_0_tried_taken, eI cI 16 (D_0_tried 1)), (h_0_dealt, oX0 h_0_dealt_row h_0_dealt_taken), (h_0_dealt_row, eI cI 16 (D_0_dealt 0)), (h_0_dealt_taken, eI cI 16 (D_0_dealt 1)), (h_0_rules, oX1 r_0_rules)]) hCF hK (c_X1_cards l D cI cJ h_0_rules r_0_rules x2 hc3) (cwV 0 hts (TBL_V mw_93 mw_94 mw_95 mw_12 mw_96) rfl rfl rfl pmX1_cards ⟨Nat.le_of_ble_eq_true rfl, Nat.le_of_ble_eq_true rfl⟩) hS hA [1] [0, 2, 3, 4, 5, 6, 7] rfl rfl rfl rfl (by decide) rfl rfl rfl hl.1 rfl (Nat.le_of_ble_eq_true rfl) ⟨Nat.zero_le _, Nat.zero_le _⟩ dX5_numberOf_38 rfl (fun H locs hS => ?_)
      replace hF := cal1_e hF
      obtain ⟨D_0_triedu4, hc5, hF⟩ := hF
      refine kV_v (As := [.int v1, .int v2, .int x2]) (rest := []) (wr := [(h_0, oX5 g_0_nextRules h_0_rules g_0_now g_0_past g_0_searcher h_0_dealt h_0_tried P_0), (h_0_dealt, oX0 h_0_dealt_row h_0_dealt_taken), (h_0_dealt_row, eI cI 16 (D_0_dealt 0)), (h_0_dealt_taken, eI cI 16 (D_0_dealt 1)), (h_0_rules, oX1 r_0_rules)]) (w2 := [(h_0, oX5 g_0_nextRules h_0_rules g_0_now g_0_past g_0_searcher h_0_dealt h_0_tried P_0), (h_0_dealt, oX0 h_0_dealt_row h_0_dealt_taken), (h_0_dealt_row, eI cI 16 (D_0_dealt 0)), (h_0_dealt_taken, eI cI 16 (D_0_dealt 1)), (h_0_rules, oX1 r_0_rules), (h_0_tried, oX0 h_0_tried_row h_0_tried_taken), (h_0_tried_row, eI cI 16 (D_0_triedu4 0)), (h_0_tried_taken, eI cI 16 (D_0_triedu4 1))]) hCF hK (c_X0_draw l D cI cJ h_0_tried h_0_tried_row h_0_tried_taken D_0_tried v1 v2 x2 D_0_triedu4 hc5) (cwV 3 hts (TBL_V mw_97 mw_98 mw_99 mw_29 mw_100) rfl rfl rfl pmX0_draw ⟨Nat.le_of_ble_eq_true rfl, Nat.le_of_ble_eq_true rfl⟩) hS hA [1, 2, 3] [0, 4, 5, 6, 7] rfl rfl rfl rfl (by decide) rfl rfl rfl hl.1 rfl (Nat.le_of_ble_eq_true rfl) ⟨Nat.zero_le _, Nat.zero_le _⟩ dX5_numberOf_41 rfl (fun H locs hS => ?_)
      refine lv_aload_n hx hb dX5_numberOf_44 rfl (lv_at hl 0 rfl) ?_
      refine r_get hx hb hts inX5 hown hK hS 0 6 rfl rfl (by decide) q0 rfl dX5_numberOf_45 ?_
      refine lv_aload_n hx hb dX5_numberOf_48 rfl (lv_at hl 0 rfl) ?_
      refine r_get hx hb hts inX5 hown hK hS 0 5 rfl rfl (by decide) q3 rfl dX5_numberOf_49 ?_
      refine lv_aload_n hx hb dX5_numberOf_52 rfl (lv_at hl 0 rfl) ?_
      refine r_get hx hb hts inX5 hown hK hS 0 1 rfl rfl (by decide) q2 rfl dX5_numberOf_53 ?_
      replace hF := cal1_e hF
      obtain ⟨x6, hc7, hF⟩ := hF
      refine kV_i (As := []) (rest := [.ref h_0_dealt, .ref h_0_tried]) (wr := [(h_0, oX5 g_0_nextRules h_0_rules g_0_now g_0_past g_0_searcher h_0_dealt h_0_tried P_0), (h_0_dealt, oX0 h_0_dealt_row h_0_dealt_taken), (h_0_dealt_row, eI cI 16 (D_0_dealt 0)), (h_0_dealt_taken, eI cI 16 (D_0_dealt 1)), (h_0_tried, oX0 h_0_tried_row h_0_tried_taken), (h_0_tried_row, eI cI 16 (D_0_triedu4 0)), (h_0_tried_taken, eI cI 16 (D_0_triedu4 1))]) (w2 := [(h_0, oX5 g_0_nextRules h_0_rules g_0_now g_0_past g_0_searcher h_0_dealt h_0_tried P_0), (h_0_dealt, oX0 h_0_dealt_row h_0_dealt_taken), (h_0_dealt_row, eI cI 16 (D_0_dealt 0)), (h_0_dealt_taken, eI cI 16 (D_0_dealt 1)), (h_0_tried, oX0 h_0_tried_row h_0_tried_taken), (h_0_tried_row, eI cI 16 (D_0_triedu4 0)), (h_0_tried_taken, eI cI 16 (D_0_triedu4 1)), (h_0_rules, oX1 r_0_rules)]) hCF hK (c_X1_cards l D cI cJ h_0_rules r_0_rules x6 hc7) (cwV 0 hts (TBL_V mw_93 mw_94 mw_95 mw_12 mw_96) rfl rfl rfl pmX1_cards ⟨Nat.le_of_ble_eq_true rfl, Nat.le_of_ble_eq_true rfl⟩) hS hA [4] [0, 1, 2, 3, 5, 6, 7] rfl rfl rfl rfl (by decide) rfl rfl rfl hl.1 rfl (Nat.le_of_ble_eq_true rfl) ⟨Nat.zero_le _, Nat.zero_le _⟩ dX5_numberOf_56 rfl (fun H locs hS => ?_)
      replace hF := cal1_e hF
      obtain ⟨x8, hc9, hF⟩ := hF
      refine kV_i (As := [.ref h_0_dealt, .int x6]) (rest := []) (wr := [(h_0, oX5 g_0_nextRules h_0_rules g_0_now g_0_past g_0_searcher h_0_dealt h_0_tried P_0), (h_0_rules, oX1 r_0_rules)]) (w2 := [(h_0, oX5 g_0_nextRules h_0_rules g_0_now g_0_past g_0_searcher h_0_dealt h_0_tried P_0), (h_0_rules, oX1 r_0_rules), (h_0_tried, oX0 h_0_tried_row h_0_tried_taken), (h_0_tried_row, eI cI 16 (D_0_triedu4 0)), (h_0_tried_taken, eI cI 16 (D_0_triedu4 1)), (h_0_dealt, oX0 h_0_dealt_row h_0_dealt_taken), (h_0_dealt_row, eI cI 16 (D_0_dealt 0)), (h_0_dealt_taken, eI cI 16 (D_0_dealt 1))]) hCF hK (c_X0_isSameAs l D cI cJ h_0_tried h_0_tried_row h_0_tried_taken h_0_dealt h_0_dealt_row h_0_dealt_taken D_0_triedu4 D_0_dealt x6 x8 hc9) (cwV 2 hts (TBL_V mw_229 mw_230 mw_231 mw_29 mw_232) rfl rfl rfl pmX0_isSameAs ⟨Nat.le_of_ble_eq_true rfl, Nat.le_of_ble_eq_true rfl⟩) hS hA [4, 5, 6, 1, 2, 3] [0, 7] rfl rfl rfl rfl (by decide) rfl rfl rfl hl.1 rfl (Nat.le_of_ble_eq_true rfl) ⟨Nat.zero_le _, Nat.zero_le _⟩ dX5_numberOf_59 rfl (fun H locs hS => ?_)
      refine lv_if_eq (tgt := 67) hx hb dX5_numberOf_62 (by decide) (fun c_10 => ?_) (fun c_10 => ?_)
      · replace hF := ifp hF c_10
        refine lv_iinc (v := v2 + (nI 1)) (lv' := [(2, .int (v2 + (nI 1))), (0, .ref h_0), (1, .int v1)]) hx hb dX5_numberOf_67 hl (k := 2) rfl rfl (by decide) rfl (fun ls hl => ?_)
        refine lv_goto (tgt := 21) hx hb dX5_numberOf_70 (by decide) ?_
        exact hK21 D_0_triedu4 v1 (v2 + (nI 1)) _ _ _ hS (lv_sub hl [1, 2, 0] rfl) hF
      · replace hF := ifn hF c_10
        refine lv_iload_n hx hb dX5_numberOf_65 rfl (lv_at hl 2 rfl) ?_
        have e9_0 := Option.some.inj hF
        obtain ⟨f9_0, e9_1⟩ := Prod.mk.inj e9_0
        obtain ⟨f9_1, e9_2⟩ := Prod.mk.inj e9_1
        subst f9_0
        subst f9_1
        subst e9_2
        exact kret _ _ _ _ rfl hS dX5_numberOf_66
  have L21 : ∀  (n : Nat) (D_0_tried : Nat → Nat → Int32) (v1 : Int32) (v2 : Int32) (H : Heap) (locs : List Loc) (ls : Array Slot), HS D A H0 [(h_0, oX5 g_0_nextRules h_0_rules g_0_now g_0_past g_0_searcher h_0_dealt h_0_tried P_0), (h_0_rules, oX1 r_0_rules), (h_0_tried, oX0 h_0_tried_row h_0_tried_taken), (h_0_tried_row, eI cI 16 (D_0_tried 0)), (h_0_tried_taken, eI cI 16 (D_0_tried 1)), (h_0_dealt, oX0 h_0_dealt_row h_0_dealt_taken), (h_0_dealt_row, eI cI 16 (D_0_dealt 0)), (h_0_dealt_taken, eI cI 16 (D_0_dealt 1))] H locs → lv_has ls 3 [(0, .ref h_0), (1, .int v1), (2, .int v2)] → F_X5_numberOf_L21 P_0 r_0_rules D_0_dealt  n D_0_tried v1 v2 = some (th, rv, r_D_0_tried) → W p l e ({ frames := 6, cells := 1, slots := 6, locals := 82 } : Room) s m args below meth c H locs 0 0 Q (F0 m 21 ls []) := by
    intro  n
    induction n with
    | zero => intro D_0_tried v1 v2 H locs ls hS hl hF; exact nomatch (show (none : Option (Nat × Int32 × (Nat → Nat → Int32))) = some _ from hF)
    | succ n ih => intro D_0_tried v1 v2 H locs ls hS hl hF; exact S21  _ ih D_0_tried v1 v2 H locs ls hS hl hF
  unfold F_X5_numberOf at hF
  refine lv_iload_n hx hb dX5_numberOf_0 rfl (lv_at hl 1 rfl) ?_
  refine lv_iconst (v := (nI 0)) hx hb dX5_numberOf_1 (by decide) ?_
  refine lv_iconst (v := (nI 1)) hx hb dX5_numberOf_2 (by decide) ?_
  replace hF := cal1_e hF
  obtain ⟨x11, hc12, hF⟩ := hF
  refine kS_i (As := [.int v1, .int (nI 0), .int (nI 1)]) (rest := []) (wr := [(h_0, oX5 g_0_nextRules h_0_rules g_0_now g_0_past g_0_searcher h_0_dealt h_0_tried P_0), (h_0_rules, oX1 r_0_rules), (h_0_tried, oX0 h_0_tried_row h_0_tried_taken), (h_0_tried_row, eI cI 16 (D_0_tried 0)), (h_0_tried_taken, eI cI 16 (D_0_tried 1)), (h_0_dealt, oX0 h_0_dealt_row h_0_dealt_taken), (h_0_dealt_row, eI cI 16 (D_0_dealt 0)), (h_0_dealt_taken, eI cI 16 (D_0_dealt 1))]) (w2 := [(h_0, oX5 g_0_nextRules h_0_rules g_0_now g_0_past g_0_searcher h_0_dealt h_0_tried P_0), (h_0_rules, oX1 r_0_rules), (h_0_tried, oX0 h_0_tried_row h_0_tried_taken), (h_0_tried_row, eI cI 16 (D_0_tried 0)), (h_0_tried_taken, eI cI 16 (D_0_tried 1)), (h_0_dealt, oX0 h_0_dealt_row h_0_dealt_taken), (h_0_dealt_row, eI cI 16 (D_0_dealt 0)), (h_0_dealt_taken, eI cI 16 (D_0_dealt 1))]) hCF hK (c_X5_isWithin l D cI cJ v1 (nI 0) (nI 1) x11 hc12) (va_cwS 3 hts (TBL_S mw_174 mw_175 mw_2 mw_176) rfl rfl rfl pmX5_isWithin.2 ⟨Nat.le_of_ble_eq_true rfl, Nat.le_of_ble_eq_true rfl⟩) hS hA [] [0, 1, 2, 3, 4, 5, 6, 7] rfl rfl rfl rfl (by decide) rfl hl.1 rfl (Nat.le_of_ble_eq_true rfl) ⟨Nat.zero_le _, Nat.zero_le _⟩ dX5_numberOf_3 rfl (fun H locs hS => ?_)
  refine lv_if_ne (tgt := 19) hx hb dX5_numberOf_6 (by decide) (fun c_13 => ?_) (fun c_13 => ?_)
  · replace hF := ifn hF c_13
    refine lv_iconst (v := (nI 0)) hx hb dX5_numberOf_19 (by decide) ?_
    refine lv_istore_n (lv' := [(2, .int (nI 0)), (0, .ref h_0), (1, .int v1)]) hx hb dX5_numberOf_20 rfl hl (by decide) rfl (fun ls hl => ?_)
    exact L21 FU D_0_tried v1 (nI 0) _ _ _ hS (lv_sub hl [1, 2, 0] rfl) hF
  · replace hF := ifp hF c_13
    have e9_0 := Option.some.inj hF
    obtain ⟨f9_0, e9_1⟩ := Prod.mk.inj e9_0
    obtain ⟨f9_1, e9_2⟩ := Prod.mk.inj e9_1
    subst f9_0
    subst f9_1
    subst e9_2
    exact kthr 1 132 _ _ _ _ _ rfl (by decide) (List.mem_of_getElem? (i := 7) rfl) hS hl.1 dX5_numberOf_9 dX5_numberOf_12 dX5_numberOf_13 dX5_numberOf_15 dX5_numberOf_18
set_option maxHeartbeats 4000000 in
set_option maxRecDepth 100000 in
theorem c_X5_move (l : Launch) (D : va_G) (cI cJ : ClassId) (hfl : l.stackTraces = false) (h_0 h_0_now h_0_now_lies h_0_now_tops h_0_now_list h_0_rules h_0_past h_0_past_lows h_0_past_highs h_0_past_places g_0_nextRules g_0_searcher g_0_dealt g_0_tried : Nat) (r_0_rules : Nat → Int32) (P_0 : Nat → Int32) (T_0_now : Nat → Nat → Int32) (S_0_past : Nat → Nat → Int64) (v1 : Int32) (v2 : Int32) (v3 : Int32) (th : Nat) (rv : Int32) (r_P_0 : Nat → Int32) (r_T_0_now : Nat → Nat → Int32) (r_S_0_past : Nat → Nat → Int64) (hF : F_X5_move r_0_rules P_0 T_0_now S_0_past v1 v2 v3 = some (th, rv, r_P_0, r_T_0_now, r_S_0_past)) : CtXI l D [(cI, .int), (cJ, .long)] yX5_move wtX5_move ({ frames := 6, cells := 1, slots := 6, locals := 139 } : Room) [.ref h_0, .int v1, .int v2, .int v3] [(h_0, oX5 g_0_nextRules h_0_rules h_0_now h_0_past g_0_searcher g_0_dealt g_0_tried P_0), (h_0_now, oX4 h_0_rules h_0_now_lies h_0_now_tops h_0_now_list T_0_now), (h_0_now_lies, eI cI 16 (T_0_now 1)), (h_0_now_tops, eI cI 10 (T_0_now 2)), (h_0_now_list, eI cI 160 (T_0_now 3)), (h_0_rules, oX1 r_0_rules), (h_0_past, oX3 h_0_past_lows h_0_past_highs h_0_past_places), (h_0_past_lows, eJ cJ 200 (S_0_past 0)), (h_0_past_highs, eJ cJ 200 (S_0_past 1)), (h_0_past_places, eJ cJ 200 (S_0_past 2))] [(h_0, oX5 g_0_nextRules h_0_rules h_0_now h_0_past g_0_searcher g_0_dealt g_0_tried r_P_0), (h_0_now, oX4 h_0_rules h_0_now_lies h_0_now_tops h_0_now_list r_T_0_now), (h_0_now_lies, eI cI 16 (r_T_0_now 1)), (h_0_now_tops, eI cI 10 (r_T_0_now 2)), (h_0_now_list, eI cI 160 (r_T_0_now 3)), (h_0_rules, oX1 r_0_rules), (h_0_past, oX3 h_0_past_lows h_0_past_highs h_0_past_places), (h_0_past_lows, eJ cJ 200 (r_S_0_past 0)), (h_0_past_highs, eJ cJ 200 (r_S_0_past 1)), (h_0_past_places, eJ cJ 200 (r_S_0_past 2))] [(h_0, oX5 g_0_nextRules h_0_rules h_0_now h_0_past g_0_searcher g_0_dealt g_0_tried r_P_0), (h_0_now, oX4 h_0_rules h_0_now_lies h_0_now_tops h_0_now_list r_T_0_now), (h_0_now_lies, eI cI 16 (r_T_0_now 1)), (h_0_now_tops, eI cI 10 (r_T_0_now 2)), (h_0_now_list, eI cI 160 (r_T_0_now 3)), (h_0_rules, oX1 r_0_rules), (h_0_past, oX3 h_0_past_lows h_0_past_highs h_0_past_places), (h_0_past_lows, eJ cJ 200 (r_S_0_past 0)), (h_0_past_highs, eJ cJ 200 (r_S_0_past 1)), (h_0_past_places, eJ cJ 200 (r_S_0_past 2))] th rv := by
  refine CtXI.of (cc := cX5_move) (maxL := 4) hfl rfl (by decide) rfl (Nat.le_of_ble_eq_true rfl) ⟨rfl, rfl, Nat.le_of_ble_eq_true rfl, Nat.le_of_ble_eq_true rfl⟩ ?_
  intro p e s m args below meth c A H0 Q ls X hS hl kret kthr
  have hCF := X.1
  obtain ⟨⟨hx, hb, hml, hown, hts⟩, hK, hA⟩ := X
  have hl : lv_has ls 4 [(0, .ref h_0), (1, .int v1), (2, .int v2), (3, .int v3)] := hl
  have q0 := hts (.fieldLink RX5 52 "Patiencery" "done" "I") (List.mem_cons_of_mem _ mw_32)
  have inX5 : ∀ w ∈ u_ws RX5 TX5 10, w ∈ wtX5_move := fun w h => List.mem_cons_of_mem _ (inlX5 w h)
  have q2 := hts (.fieldLink RX5 22 "Patiencery" "now" "LPatiencery$Table;") (List.mem_cons_of_mem _ mw_18)
  have B63 : ∀ (P_0 : Nat → Int32) (T_0_now : Nat → Nat → Int32) (S_0_past : Nat → Nat → Int64) (v1 : Int32) (v2 : Int32) (v3 : Int32) (s0 : Int32) (s1 : Int32) (s2 : Int32) (H : Heap) (locs : List Loc) (ls : Array Slot), HS D A H0 [(h_0, oX5 g_0_nextRules h_0_rules h_0_now h_0_past g_0_searcher g_0_dealt g_0_tried P_0), (h_0_now, oX4 h_0_rules h_0_now_lies h_0_now_tops h_0_now_list T_0_now), (h_0_now_lies, eI cI 16 (T_0_now 1)), (h_0_now_tops, eI cI 10 (T_0_now 2)), (h_0_now_list, eI cI 160 (T_0_now 3)), (h_0_rules, oX1 r_0_rules), (h_0_past, oX3 h_0_past_lows h_0_past_highs h_0_past_places), (h_0_past_lows, eJ cJ 200 (S_0_past 0)), (h_0_past_highs, eJ cJ 200 (S_0_past 1)), (h_0_past_places, eJ cJ 200 (S_0_past 2))] H locs → lv_has ls 4 [(0, .ref h_0), (1, .int v1), (2, .int v2), (3, .int v3)] → F_X5_move_b63 r_0_rules  P_0 T_0_now S_0_past v1 v2 v3 s0 s1 s2 = some (th, rv, r_P_0, r_T_0_now, r_S_0_past) → W p l e ({ frames := 6, cells := 1, slots := 6, locals := 139 } : Room) s m args below meth c H locs 0 0 Q (F0 m 63 ls [.int s2, .int s1, .int s0]) := by
    intro P_0 T_0_now S_0_past v1 v2 v3 s0 s1 s2 H locs ls hS hl hF
    unfold F_X5_move_b63 at hF
    replace hF := cal1_e hF
    obtain ⟨x1, hc2, hF⟩ := hF
    refine kS_i (As := [.int s0, .int s1, .int s2]) (rest := []) (wr := [(h_0, oX5 g_0_nextRules h_0_rules h_0_now h_0_past g_0_searcher g_0_dealt g_0_tried P_0), (h_0_now, oX4 h_0_rules h_0_now_lies h_0_now_tops h_0_now_list T_0_now), (h_0_now_lies, eI cI 16 (T_0_now 1)), (h_0_now_tops, eI cI 10 (T_0_now 2)), (h_0_now_list, eI cI 160 (T_0_now 3)), (h_0_rules, oX1 r_0_rules), (h_0_past, oX3 h_0_past_lows h_0_past_highs h_0_past_places), (h_0_past_lows, eJ cJ 200 (S_0_past 0)), (h_0_past_highs, eJ cJ 200 (S_0_past 1)), (h_0_past_places, eJ cJ 200 (S_0_past 2))]) (w2 := [(h_0, oX5 g_0_nextRules h_0_rules h_0_now h_0_past g_0_searcher g_0_dealt g_0_tried P_0), (h_0_now, oX4 h_0_rules h_0_now_lies h_0_now_tops h_0_now_list T_0_now), (h_0_now_lies, eI cI 16 (T_0_now 1)), (h_0_now_tops, eI cI 10 (T_0_now 2)), (h_0_now_list, eI cI 160 (T_0_now 3)), (h_0_rules, oX1 r_0_rules), (h_0_past, oX3 h_0_past_lows h_0_past_highs h_0_past_places), (h_0_past_lows, eJ cJ 200 (S_0_past 0)), (h_0_past_highs, eJ cJ 200 (S_0_past 1)), (h_0_past_places, eJ cJ 200 (S_0_past 2))]) hCF hK (c_X5_isWithin l D cI cJ s0 s1 s2 x1 hc2) (va_cwS 3 hts (TBL_S mw_174 mw_175 mw_2 mw_176) rfl rfl rfl pmX5_isWithin.2 ⟨Nat.le_of_ble_eq_true rfl, Nat.le_of_ble_eq_true rfl⟩) hS hA [] [0, 1, 2, 3, 4, 5, 6, 7, 8, 9] rfl rfl rfl rfl (by decide) rfl hl.1 rfl (Nat.le_of_ble_eq_true rfl) ⟨Nat.zero_le _, Nat.zero_le _⟩ dX5_move_63 rfl (fun H locs hS => ?_)
    refine lv_if_ne (tgt := 79) hx hb dX5_move_66 (by decide) (fun c_3 => ?_) (fun c_3 => ?_)
    · replace hF := ifn hF c_3
      refine lv_aload_n hx hb dX5_move_79 rfl (lv_at hl 0 rfl) ?_
      refine r_get hx hb hts inX5 hown hK hS 0 7 rfl rfl (by decide) q0 rfl dX5_move_80 ?_
      refine lv_sipush (v := (nI 200)) hx hb dX5_move_83 (by decide) ?_
      refine lv_icmp_ge (tgt := 102) hx hb dX5_move_86 (by decide) (fun c_4 => ?_) (fun c_4 => ?_)
      · replace hF := ifp hF c_4
        have e9_0 := Option.some.inj hF
        obtain ⟨f9_0, e9_1⟩ := Prod.mk.inj e9_0
        obtain ⟨f9_1, e9_2⟩ := Prod.mk.inj e9_1
        obtain ⟨f9_2, e9_3⟩ := Prod.mk.inj e9_2
        obtain ⟨f9_3, e9_4⟩ := Prod.mk.inj e9_3
        subst f9_0
        subst f9_1
        subst f9_2
        subst f9_3
        subst e9_4
        exact kthr 2 155 _ _ _ _ _ rfl (by decide) (List.mem_of_getElem? (i := 10) rfl) hS hl.1 dX5_move_102 dX5_move_105 dX5_move_106 dX5_move_108 dX5_move_111
      · replace hF := ifn hF c_4
        refine lv_aload_n hx hb dX5_move_89 rfl (lv_at hl 0 rfl) ?_
        refine r_get hx hb hts inX5 hown hK hS 0 2 rfl rfl (by decide) q2 rfl dX5_move_90 ?_
        refine lv_iload_n hx hb dX5_move_93 rfl (lv_at hl 1 rfl) ?_
        refine lv_iload_n hx hb dX5_move_94 rfl (lv_at hl 2 rfl) ?_
        refine lv_iload_n hx hb dX5_move_95 rfl (lv_at hl 3 rfl) ?_
        replace hF := cal1_e hF
        obtain ⟨x5, hc6, hF⟩ := hF
        refine kV_i (As := [.int v1, .int v2, .int v3]) (rest := []) (wr := [(h_0, oX5 g_0_nextRules h_0_rules h_0_now h_0_past g_0_searcher g_0_dealt g_0_tried P_0), (h_0_past, oX3 h_0_past_lows h_0_past_highs h_0_past_places), (h_0_past_lows, eJ cJ 200 (S_0_past 0)), (h_0_past_highs, eJ cJ 200 (S_0_past 1)), (h_0_past_places, eJ cJ 200 (S_0_past 2))]) (w2 := [(h_0, oX5 g_0_nextRules h_0_rules h_0_now h_0_past g_0_searcher g_0_dealt g_0_tried P_0), (h_0_past, oX3 h_0_past_lows h_0_past_highs h_0_past_places), (h_0_past_lows, eJ cJ 200 (S_0_past 0)), (h_0_past_highs, eJ cJ 200 (S_0_past 1)), (h_0_past_places, eJ cJ 200 (S_0_past 2)), (h_0_now, oX4 h_0_rules h_0_now_lies h_0_now_tops h_0_now_list T_0_now), (h_0_now_lies, eI cI 16 (T_0_now 1)), (h_0_now_tops, eI cI 10 (T_0_now 2)), (h_0_now_list, eI cI 160 (T_0_now 3)), (h_0_rules, oX1 r_0_rules)]) hCF hK (c_X4_isMove l D cI cJ h_0_now h_0_now_lies h_0_now_tops h_0_now_list h_0_rules T_0_now r_0_rules v1 v2 v3 x5 hc6) (cwV 3 hts (TBL_V mw_326 mw_270 mw_271 mw_17 mw_272) rfl rfl rfl pmX4_isMove ⟨Nat.le_of_ble_eq_true rfl, Nat.le_of_ble_eq_true rfl⟩) hS hA [1, 2, 3, 4, 5] [0, 6, 7, 8, 9] rfl rfl rfl rfl (by decide) rfl rfl rfl hl.1 rfl (Nat.le_of_ble_eq_true rfl) ⟨Nat.zero_le _, Nat.zero_le _⟩ dX5_move_96 rfl (fun H locs hS => ?_)
        refine lv_if_ne (tgt := 112) hx hb dX5_move_99 (by decide) (fun c_7 => ?_) (fun c_7 => ?_)
        · replace hF := ifn hF c_7
          refine lv_aload_n hx hb dX5_move_112 rfl (lv_at hl 0 rfl) ?_
          refine lv_iload_n hx hb dX5_move_113 rfl (lv_at hl 1 rfl) ?_
          refine lv_iload_n hx hb dX5_move_114 rfl (lv_at hl 2 rfl) ?_
          refine lv_iload_n hx hb dX5_move_115 rfl (lv_at hl 3 rfl) ?_
          replace hF := cal3_e hF
          obtain ⟨P_0u8, S_0_pastu9, T_0_nowu10, hc11, hF⟩ := hF
          refine kV_v (As := [.int v1, .int v2, .int v3]) (rest := []) (wr := [(h_0_rules, oX1 r_0_rules)]) (w2 := [(h_0_rules, oX1 r_0_rules), (h_0, oX5 g_0_nextRules h_0_rules h_0_now h_0_past g_0_searcher g_0_dealt g_0_tried P_0u8), (h_0_past, oX3 h_0_past_lows h_0_past_highs h_0_past_places), (h_0_past_lows, eJ cJ 200 (S_0_pastu9 0)), (h_0_past_highs, eJ cJ 200 (S_0_pastu9 1)), (h_0_past_places, eJ cJ 200 (S_0_pastu9 2)), (h_0_now, oX4 h_0_rules h_0_now_lies h_0_now_tops h_0_now_list T_0_nowu10), (h_0_now_lies, eI cI 16 (T_0_nowu10 1)), (h_0_now_tops, eI cI 10 (T_0_nowu10 2)), (h_0_now_list, eI cI 160 (T_0_nowu10 3))]) hCF hK (c_X5_doMove l D cI cJ h_0 h_0_past h_0_past_lows h_0_past_highs h_0_past_places h_0_now h_0_now_lies h_0_now_tops h_0_now_list g_0_nextRules h_0_rules g_0_searcher g_0_dealt g_0_tried h_0_rules P_0 S_0_past T_0_now v1 v2 v3 P_0u8 S_0_pastu9 T_0_nowu10 hc11) (cwV 3 hts (TBL_V mw_327 mw_328 mw_329 mw_2 mw_330) rfl rfl rfl pmX5_doMove ⟨Nat.le_of_ble_eq_true rfl, Nat.le_of_ble_eq_true rfl⟩) hS hA [0, 1, 2, 3, 4, 5, 6, 7, 8] [9] rfl rfl rfl rfl (by decide) rfl rfl rfl hl.1 rfl (Nat.le_of_ble_eq_true rfl) ⟨Nat.zero_le _, Nat.zero_le _⟩ dX5_move_116 rfl (fun H locs hS => ?_)
          refine lv_aload_n hx hb dX5_move_119 rfl (lv_at hl 0 rfl) ?_
          refine r_get hx hb hts inX5 hown hK hS 1 2 rfl rfl (by decide) q2 rfl dX5_move_120 ?_
          replace hF := cal1_e hF
          obtain ⟨x12, hc13, hF⟩ := hF
          refine kV_i (As := []) (rest := []) (wr := [(h_0, oX5 g_0_nextRules h_0_rules h_0_now h_0_past g_0_searcher g_0_dealt g_0_tried P_0u8), (h_0_past, oX3 h_0_past_lows h_0_past_highs h_0_past_places), (h_0_past_lows, eJ cJ 200 (S_0_pastu9 0)), (h_0_past_highs, eJ cJ 200 (S_0_pastu9 1)), (h_0_past_places, eJ cJ 200 (S_0_pastu9 2))]) (w2 := [(h_0, oX5 g_0_nextRules h_0_rules h_0_now h_0_past g_0_searcher g_0_dealt g_0_tried P_0u8), (h_0_past, oX3 h_0_past_lows h_0_past_highs h_0_past_places), (h_0_past_lows, eJ cJ 200 (S_0_pastu9 0)), (h_0_past_highs, eJ cJ 200 (S_0_pastu9 1)), (h_0_past_places, eJ cJ 200 (S_0_pastu9 2)), (h_0_now, oX4 h_0_rules h_0_now_lies h_0_now_tops h_0_now_list T_0_nowu10), (h_0_now_lies, eI cI 16 (T_0_nowu10 1)), (h_0_now_tops, eI cI 10 (T_0_nowu10 2)), (h_0_now_list, eI cI 160 (T_0_nowu10 3)), (h_0_rules, oX1 r_0_rules)]) hCF hK (c_X4_cardsUp l D cI cJ h_0_now h_0_now_lies h_0_now_tops h_0_now_list h_0_rules T_0_nowu10 r_0_rules x12 hc13) (cwV 0 hts (TBL_V mw_209 mw_210 mw_211 mw_17 mw_212) rfl rfl rfl pmX4_cardsUp ⟨Nat.le_of_ble_eq_true rfl, Nat.le_of_ble_eq_true rfl⟩) hS hA [6, 7, 8, 9, 0] [1, 2, 3, 4, 5] rfl rfl rfl rfl (by decide) rfl rfl rfl hl.1 rfl (Nat.le_of_ble_eq_true rfl) ⟨Nat.zero_le _, Nat.zero_le _⟩ dX5_move_123 rfl (fun H locs hS => ?_)
          have e9_0 := Option.some.inj hF
          obtain ⟨f9_0, e9_1⟩ := Prod.mk.inj e9_0
          obtain ⟨f9_1, e9_2⟩ := Prod.mk.inj e9_1
          obtain ⟨f9_2, e9_3⟩ := Prod.mk.inj e9_2
          obtain ⟨f9_3, e9_4⟩ := Prod.mk.inj e9_3
          subst f9_0
          subst f9_1
          subst f9_2
          subst f9_3
          subst e9_4
          exact kret _ _ _ _ rfl (hS.sub [0, 5, 6, 7, 8, 9, 1, 2, 3, 4] rfl rfl) dX5_move_126
        · replace hF := ifp hF c_7
          have e9_0 := Option.some.inj hF
          obtain ⟨f9_0, e9_1⟩ := Prod.mk.inj e9_0
          obtain ⟨f9_1, e9_2⟩ := Prod.mk.inj e9_1
          obtain ⟨f9_2, e9_3⟩ := Prod.mk.inj e9_2
          obtain ⟨f9_3, e9_4⟩ := Prod.mk.inj e9_3
          subst f9_0
          subst f9_1
          subst f9_2
          subst f9_3
          subst e9_4
          exact kthr 2 155 _ _ _ _ _ rfl (by decide) (List.mem_of_getElem? (i := 10) rfl) (hS.sub [0, 5, 6, 7, 8, 9, 1, 2, 3, 4] rfl rfl) hl.1 dX5_move_102 dX5_move_105 dX5_move_106 dX5_move_108 dX5_move_111
    · replace hF := ifp hF c_3
      have e9_0 := Option.some.inj hF
      obtain ⟨f9_0, e9_1⟩ := Prod.mk.inj e9_0
      obtain ⟨f9_1, e9_2⟩ := Prod.mk.inj e9_1
      obtain ⟨f9_2, e9_3⟩ := Prod.mk.inj e9_2
      obtain ⟨f9_3, e9_4⟩ := Prod.mk.inj e9_3
      subst f9_0
      subst f9_1
      subst f9_2
      subst f9_3
      subst e9_4
      exact kthr 1 148 _ _ _ _ _ rfl (by decide) (List.mem_of_getElem? (i := 9) rfl) hS hl.1 dX5_move_69 dX5_move_72 dX5_move_73 dX5_move_75 dX5_move_78
  unfold F_X5_move at hF
  refine lv_iload_n hx hb dX5_move_0 rfl (lv_at hl 1 rfl) ?_
  refine lv_iconst (v := (nI 0)) hx hb dX5_move_1 (by decide) ?_
  refine lv_bipush (v := (nI 9)) hx hb dX5_move_2 (by decide) ?_
  replace hF := cal1_e hF
  obtain ⟨x14, hc15, hF⟩ := hF
  refine kS_i (As := [.int v1, .int (nI 0), .int (nI 9)]) (rest := []) (wr := [(h_0, oX5 g_0_nextRules h_0_rules h_0_now h_0_past g_0_searcher g_0_dealt g_0_tried P_0), (h_0_now, oX4 h_0_rules h_0_now_lies h_0_now_tops h_0_now_list T_0_now), (h_0_now_lies, eI cI 16 (T_0_now 1)), (h_0_now_tops, eI cI 10 (T_0_now 2)), (h_0_now_list, eI cI 160 (T_0_now 3)), (h_0_rules, oX1 r_0_rules), (h_0_past, oX3 h_0_past_lows h_0_past_highs h_0_past_places), (h_0_past_lows, eJ cJ 200 (S_0_past 0)), (h_0_past_highs, eJ cJ 200 (S_0_past 1)), (h_0_past_places, eJ cJ 200 (S_0_past 2))]) (w2 := [(h_0, oX5 g_0_nextRules h_0_rules h_0_now h_0_past g_0_searcher g_0_dealt g_0_tried P_0), (h_0_now, oX4 h_0_rules h_0_now_lies h_0_now_tops h_0_now_list T_0_now), (h_0_now_lies, eI cI 16 (T_0_now 1)), (h_0_now_tops, eI cI 10 (T_0_now 2)), (h_0_now_list, eI cI 160 (T_0_now 3)), (h_0_rules, oX1 r_0_rules), (h_0_past, oX3 h_0_past_lows h_0_past_highs h_0_past_places), (h_0_past_lows, eJ cJ 200 (S_0_past 0)), (h_0_past_highs, eJ cJ 200 (S_0_past 1)), (h_0_past_places, eJ cJ 200 (S_0_past 2))]) hCF hK (c_X5_isWithin l D cI cJ v1 (nI 0) (nI 9) x14 hc15) (va_cwS 3 hts (TBL_S mw_174 mw_175 mw_2 mw_176) rfl rfl rfl pmX5_isWithin.2 ⟨Nat.le_of_ble_eq_true rfl, Nat.le_of_ble_eq_true rfl⟩) hS hA [] [0, 1, 2, 3, 4, 5, 6, 7, 8, 9] rfl rfl rfl rfl (by decide) rfl hl.1 rfl (Nat.le_of_ble_eq_true rfl) ⟨Nat.zero_le _, Nat.zero_le _⟩ dX5_move_4 rfl (fun H locs hS => ?_)
  refine lv_if_eq (tgt := 31) hx hb dX5_move_7 (by decide) (fun c_16 => ?_) (fun c_16 => ?_)
  · replace hF := ifp hF c_16
    have e9_0 := Option.some.inj hF
    obtain ⟨f9_0, e9_1⟩ := Prod.mk.inj e9_0
    obtain ⟨f9_1, e9_2⟩ := Prod.mk.inj e9_1
    obtain ⟨f9_2, e9_3⟩ := Prod.mk.inj e9_2
    obtain ⟨f9_3, e9_4⟩ := Prod.mk.inj e9_3
    subst f9_0
    subst f9_1
    subst f9_2
    subst f9_3
    subst e9_4
    exact kthr 1 142 _ _ _ _ _ rfl (by decide) (List.mem_of_getElem? (i := 8) rfl) hS hl.1 dX5_move_31 dX5_move_34 dX5_move_35 dX5_move_37 dX5_move_40
  · replace hF := ifn hF c_16
    refine lv_iload_n hx hb dX5_move_10 rfl (lv_at hl 1 rfl) ?_
    refine lv_bipush (v := (nI 8)) hx hb dX5_move_11 (by decide) ?_
    refine lv_icmp_eq (tgt := 31) hx hb dX5_move_13 (by decide) (fun c_17 => ?_) (fun c_17 => ?_)
    · replace hF := ifp hF c_17
      have e9_0 := Option.some.inj hF
      obtain ⟨f9_0, e9_1⟩ := Prod.mk.inj e9_0
      obtain ⟨f9_1, e9_2⟩ := Prod.mk.inj e9_1
      obtain ⟨f9_2, e9_3⟩ := Prod.mk.inj e9_2
      obtain ⟨f9_3, e9_4⟩ := Prod.mk.inj e9_3
      subst f9_0
      subst f9_1
      subst f9_2
      subst f9_3
      subst e9_4
      exact kthr 1 142 _ _ _ _ _ rfl (by decide) (List.mem_of_getElem? (i := 8) rfl) hS hl.1 dX5_move_31 dX5_move_34 dX5_move_35 dX5_move_37 dX5_move_40
    · replace hF := ifn hF c_17
      refine lv_iload_n hx hb dX5_move_16 rfl (lv_at hl 2 rfl) ?_
      refine lv_iconst (v := (nI 0)) hx hb dX5_move_17 (by decide) ?_
      refine lv_bipush (v := (nI 8)) hx hb dX5_move_18 (by decide) ?_
      replace hF := cal1_e hF
      obtain ⟨x18, hc19, hF⟩ := hF
      refine kS_i (As := [.int v2, .int (nI 0), .int (nI 8)]) (rest := []) (wr := [(h_0, oX5 g_0_nextRules h_0_rules h_0_now h_0_past g_0_searcher g_0_dealt g_0_tried P_0), (h_0_now, oX4 h_0_rules h_0_now_lies h_0_now_tops h_0_now_list T_0_now), (h_0_now_lies, eI cI 16 (T_0_now 1)), (h_0_now_tops, eI cI 10 (T_0_now 2)), (h_0_now_list, eI cI 160 (T_0_now 3)), (h_0_rules, oX1 r_0_rules), (h_0_past, oX3 h_0_past_lows h_0_past_highs h_0_past_places), (h_0_past_lows, eJ cJ 200 (S_0_past 0)), (h_0_past_highs, eJ cJ 200 (S_0_past 1)), (h_0_past_places, eJ cJ 200 (S_0_past 2))]) (w2 := [(h_0, oX5 g_0_nextRules h_0_rules h_0_now h_0_past g_0_searcher g_0_dealt g_0_tried P_0), (h_0_now, oX4 h_0_rules h_0_now_lies h_0_now_tops h_0_now_list T_0_now), (h_0_now_lies, eI cI 16 (T_0_now 1)), (h_0_now_tops, eI cI 10 (T_0_now 2)), (h_0_now_list, eI cI 160 (T_0_now 3)), (h_0_rules, oX1 r_0_rules), (h_0_past, oX3 h_0_past_lows h_0_past_highs h_0_past_places), (h_0_past_lows, eJ cJ 200 (S_0_past 0)), (h_0_past_highs, eJ cJ 200 (S_0_past 1)), (h_0_past_places, eJ cJ 200 (S_0_past 2))]) hCF hK (c_X5_isWithin l D cI cJ v2 (nI 0) (nI 8) x18 hc19) (va_cwS 3 hts (TBL_S mw_174 mw_175 mw_2 mw_176) rfl rfl rfl pmX5_isWithin.2 ⟨Nat.le_of_ble_eq_true rfl, Nat.le_of_ble_eq_true rfl⟩) hS hA [] [0, 1, 2, 3, 4, 5, 6, 7, 8, 9] rfl rfl rfl rfl (by decide) rfl hl.1 rfl (Nat.le_of_ble_eq_true rfl) ⟨Nat.zero_le _, Nat.zero_le _⟩ dX5_move_20 rfl (fun H locs hS => ?_)
      refine lv_if_eq (tgt := 31) hx hb dX5_move_23 (by decide) (fun c_20 => ?_) (fun c_20 => ?_)
      · replace hF := ifp hF c_20
        have e9_0 := Option.some.inj hF
        obtain ⟨f9_0, e9_1⟩ := Prod.mk.inj e9_0
        obtain ⟨f9_1, e9_2⟩ := Prod.mk.inj e9_1
        obtain ⟨f9_2, e9_3⟩ := Prod.mk.inj e9_2
        obtain ⟨f9_3, e9_4⟩ := Prod.mk.inj e9_3
        subst f9_0
        subst f9_1
        subst f9_2
        subst f9_3
        subst e9_4
        exact kthr 1 142 _ _ _ _ _ rfl (by decide) (List.mem_of_getElem? (i := 8) rfl) hS hl.1 dX5_move_31 dX5_move_34 dX5_move_35 dX5_move_37 dX5_move_40
      · replace hF := ifn hF c_20
        refine lv_iload_n hx hb dX5_move_26 rfl (lv_at hl 1 rfl) ?_
        refine lv_iload_n hx hb dX5_move_27 rfl (lv_at hl 2 rfl) ?_
        refine lv_icmp_ne (tgt := 41) hx hb dX5_move_28 (by decide) (fun c_21 => ?_) (fun c_21 => ?_)
        · replace hF := ifn hF c_21
          refine lv_iload_n hx hb dX5_move_41 rfl (lv_at hl 3 rfl) ?_
          refine lv_iconst (v := (nI 1)) hx hb dX5_move_42 (by decide) ?_
          refine lv_iload_n hx hb dX5_move_43 rfl (lv_at hl 1 rfl) ?_
          replace hF := cal1_e hF
          obtain ⟨x22, hc23, hF⟩ := hF
          refine kS_i (As := [.int v1]) (rest := [.int (nI 1), .int v3]) (wr := [(h_0, oX5 g_0_nextRules h_0_rules h_0_now h_0_past g_0_searcher g_0_dealt g_0_tried P_0), (h_0_now, oX4 h_0_rules h_0_now_lies h_0_now_tops h_0_now_list T_0_now), (h_0_now_lies, eI cI 16 (T_0_now 1)), (h_0_now_tops, eI cI 10 (T_0_now 2)), (h_0_now_list, eI cI 160 (T_0_now 3)), (h_0_rules, oX1 r_0_rules), (h_0_past, oX3 h_0_past_lows h_0_past_highs h_0_past_places), (h_0_past_lows, eJ cJ 200 (S_0_past 0)), (h_0_past_highs, eJ cJ 200 (S_0_past 1)), (h_0_past_places, eJ cJ 200 (S_0_past 2))]) (w2 := [(h_0, oX5 g_0_nextRules h_0_rules h_0_now h_0_past g_0_searcher g_0_dealt g_0_tried P_0), (h_0_now, oX4 h_0_rules h_0_now_lies h_0_now_tops h_0_now_list T_0_now), (h_0_now_lies, eI cI 16 (T_0_now 1)), (h_0_now_tops, eI cI 10 (T_0_now 2)), (h_0_now_list, eI cI 160 (T_0_now 3)), (h_0_rules, oX1 r_0_rules), (h_0_past, oX3 h_0_past_lows h_0_past_highs h_0_past_places), (h_0_past_lows, eJ cJ 200 (S_0_past 0)), (h_0_past_highs, eJ cJ 200 (S_0_past 1)), (h_0_past_places, eJ cJ 200 (S_0_past 2))]) hCF hK (c_X5_isColumn l D cI cJ v1 x22 hc23) (va_cwS 1 hts (TBL_S mw_325 mw_243 mw_2 mw_244) rfl rfl rfl pmX5_isColumn.2 ⟨Nat.le_of_ble_eq_true rfl, Nat.le_of_ble_eq_true rfl⟩) hS hA [] [0, 1, 2, 3, 4, 5, 6, 7, 8, 9] rfl rfl rfl rfl (by decide) rfl hl.1 rfl (Nat.le_of_ble_eq_true rfl) ⟨Nat.zero_le _, Nat.zero_le _⟩ dX5_move_44 rfl (fun H locs hS => ?_)
          refine lv_if_eq (tgt := 62) hx hb dX5_move_47 (by decide) (fun c_24 => ?_) (fun c_24 => ?_)
          · replace hF := ifp hF c_24
            refine lv_iconst (v := (nI 1)) hx hb dX5_move_62 (by decide) ?_
            exact B63 P_0 T_0_now S_0_past v1 v2 v3 v3 (nI 1) (nI 1) _ _ _ hS (lv_sub hl [0, 1, 2, 3] rfl) hF
          · replace hF := ifn hF c_24
            refine lv_iload_n hx hb dX5_move_50 rfl (lv_at hl 2 rfl) ?_
            replace hF := cal1_e hF
            obtain ⟨x25, hc26, hF⟩ := hF
            refine kS_i (As := [.int v2]) (rest := [.int (nI 1), .int v3]) (wr := [(h_0, oX5 g_0_nextRules h_0_rules h_0_now h_0_past g_0_searcher g_0_dealt g_0_tried P_0), (h_0_now, oX4 h_0_rules h_0_now_lies h_0_now_tops h_0_now_list T_0_now), (h_0_now_lies, eI cI 16 (T_0_now 1)), (h_0_now_tops, eI cI 10 (T_0_now 2)), (h_0_now_list, eI cI 160 (T_0_now 3)), (h_0_rules, oX1 r_0_rules), (h_0_past, oX3 h_0_past_lows h_0_past_highs h_0_past_places), (h_0_past_lows, eJ cJ 200 (S_0_past 0)), (h_0_past_highs, eJ cJ 200 (S_0_past 1)), (h_0_past_places, eJ cJ 200 (S_0_past 2))]) (w2 := [(h_0, oX5 g_0_nextRules h_0_rules h_0_now h_0_past g_0_searcher g_0_dealt g_0_tried P_0), (h_0_now, oX4 h_0_rules h_0_now_lies h_0_now_tops h_0_now_list T_0_now), (h_0_now_lies, eI cI 16 (T_0_now 1)), (h_0_now_tops, eI cI 10 (T_0_now 2)), (h_0_now_list, eI cI 160 (T_0_now 3)), (h_0_rules, oX1 r_0_rules), (h_0_past, oX3 h_0_past_lows h_0_past_highs h_0_past_places), (h_0_past_lows, eJ cJ 200 (S_0_past 0)), (h_0_past_highs, eJ cJ 200 (S_0_past 1)), (h_0_past_places, eJ cJ 200 (S_0_past 2))]) hCF hK (c_X5_isColumn l D cI cJ v2 x25 hc26) (va_cwS 1 hts (TBL_S mw_325 mw_243 mw_2 mw_244) rfl rfl rfl pmX5_isColumn.2 ⟨Nat.le_of_ble_eq_true rfl, Nat.le_of_ble_eq_true rfl⟩) hS hA [] [0, 1, 2, 3, 4, 5, 6, 7, 8, 9] rfl rfl rfl rfl (by decide) rfl hl.1 rfl (Nat.le_of_ble_eq_true rfl) ⟨Nat.zero_le _, Nat.zero_le _⟩ dX5_move_51 rfl (fun H locs hS => ?_)
            refine lv_if_eq (tgt := 62) hx hb dX5_move_54 (by decide) (fun c_27 => ?_) (fun c_27 => ?_)
            · replace hF := ifp hF c_27
              refine lv_iconst (v := (nI 1)) hx hb dX5_move_62 (by decide) ?_
              exact B63 P_0 T_0_now S_0_past v1 v2 v3 v3 (nI 1) (nI 1) _ _ _ hS (lv_sub hl [0, 1, 2, 3] rfl) hF
            · replace hF := ifn hF c_27
              refine lv_bipush (v := (nI 16)) hx hb dX5_move_57 (by decide) ?_
              refine lv_goto (tgt := 63) hx hb dX5_move_59 (by decide) ?_
              exact B63 P_0 T_0_now S_0_past v1 v2 v3 v3 (nI 1) (nI 16) _ _ _ hS (lv_sub hl [0, 1, 2, 3] rfl) hF
        · replace hF := ifp hF c_21
          have e9_0 := Option.some.inj hF
          obtain ⟨f9_0, e9_1⟩ := Prod.mk.inj e9_0
          obtain ⟨f9_1, e9_2⟩ := Prod.mk.inj e9_1
          obtain ⟨f9_2, e9_3⟩ := Prod.mk.inj e9_2
          obtain ⟨f9_3, e9_4⟩ := Prod.mk.inj e9_3
          subst f9_0
          subst f9_1
          subst f9_2
          subst f9_3
          subst e9_4
          exact kthr 1 142 _ _ _ _ _ rfl (by decide) (List.mem_of_getElem? (i := 8) rfl) hS hl.1 dX5_move_31 dX5_move_34 dX5_move_35 dX5_move_37 dX5_move_40
set_option maxHeartbeats 4000000 in
set_option maxRecDepth 100000 in
theorem c_X5_undo (l : Launch) (D : va_G) (cI cJ : ClassId) (hfl : l.stackTraces = false) (h_0 h_0_past h_0_past_lows h_0_past_highs h_0_past_places h_0_now h_0_now_lies h_0_now_tops h_0_now_list g_0_nextRules g_0_rules g_0_searcher g_0_dealt g_0_tried g_0_now_rules : Nat) (S_0_past : Nat → Nat → Int64) (P_0 : Nat → Int32) (T_0_now : Nat → Nat → Int32) (v1 : Int32) (th : Nat) (rv : Int32) (r_P_0 : Nat → Int32) (r_T_0_now : Nat → Nat → Int32) (hF : F_X5_undo S_0_past P_0 T_0_now v1 = some (th, rv, r_P_0, r_T_0_now)) : CtXI l D [(cI, .int), (cJ, .long)] yX5_undo wtX5_undo ({ frames := 6, cells := 1, slots := 6, locals := 82 } : Room) [.ref h_0, .int v1] [(h_0, oX5 g_0_nextRules g_0_rules h_0_now h_0_past g_0_searcher g_0_dealt g_0_tried P_0), (h_0_past, oX3 h_0_past_lows h_0_past_highs h_0_past_places), (h_0_past_lows, eJ cJ 200 (S_0_past 0)), (h_0_past_highs, eJ cJ 200 (S_0_past 1)), (h_0_past_places, eJ cJ 200 (S_0_past 2)), (h_0_now, oX4 g_0_now_rules h_0_now_lies h_0_now_tops h_0_now_list T_0_now), (h_0_now_lies, eI cI 16 (T_0_now 1)), (h_0_now_tops, eI cI 10 (T_0_now 2)), (h_0_now_list, eI cI 160 (T_0_now 3))] [(h_0, oX5 g_0_nextRules g_0_rules h_0_now h_0_past g_0_searcher g_0_dealt g_0_tried r_P_0), (h_0_past, oX3 h_0_past_lows h_0_past_highs h_0_past_places), (h_0_past_lows, eJ cJ 200 (S_0_past 0)), (h_0_past_highs, eJ cJ 200 (S_0_past 1)), (h_0_past_places, eJ cJ 200 (S_0_past 2)), (h_0_now, oX4 g_0_now_rules h_0_now_lies h_0_now_tops h_0_now_list r_T_0_now), (h_0_now_lies, eI cI 16 (r_T_0_now 1)), (h_0_now_tops, eI cI 10 (r_T_0_now 2)), (h_0_now_list, eI cI 160 (r_T_0_now 3))] [(h_0, oX5 g_0_nextRules g_0_rules h_0_now h_0_past g_0_searcher g_0_dealt g_0_tried r_P_0), (h_0_past, oX3 h_0_past_lows h_0_past_highs h_0_past_places), (h_0_past_lows, eJ cJ 200 (S_0_past 0)), (h_0_past_highs, eJ cJ 200 (S_0_past 1)), (h_0_past_places, eJ cJ 200 (S_0_past 2)), (h_0_now, oX4 g_0_now_rules h_0_now_lies h_0_now_tops h_0_now_list r_T_0_now), (h_0_now_lies, eI cI 16 (r_T_0_now 1)), (h_0_now_tops, eI cI 10 (r_T_0_now 2)), (h_0_now_list, eI cI 160 (r_T_0_now 3))] th rv := by
  refine CtXI.of (cc := cX5_undo) (maxL := 3) hfl rfl (by decide) rfl (Nat.le_of_ble_eq_true rfl) ⟨rfl, rfl, Nat.le_of_ble_eq_true rfl, Nat.le_of_ble_eq_true rfl⟩ ?_
  intro p e s m args below meth c A H0 Q ls X hS hl kret kthr
  have hCF := X.1
  obtain ⟨⟨hx, hb, hml, hown, hts⟩, hK, hA⟩ := X
  have hl : lv_has ls 3 [(0, .ref h_0), (1, .int v1)] := hl
  have q0 := hts (.fieldLink RX5 52 "Patiencery" "done" "I") (List.mem_cons_of_mem _ mw_32)
  have inX5 : ∀ w ∈ u_ws RX5 TX5 10, w ∈ wtX5_undo := fun w h => List.mem_cons_of_mem _ (inlX5 w h)
  have q2 := hts (.methodLink RX5 166 Lib.Math.min.name) (List.mem_cons_of_mem _ mw_370)
  have q3 := hts (.static Lib.Math.min.name) (List.mem_cons_of_mem _ mw_102)
  have q4 := hts (.initialized "java/lang/Math") (List.mem_cons_of_mem _ mw_65)
  have q5 := hts (.code Lib.Math.min.name Lib.Math.min.code 2 (some .int)) (List.mem_cons_of_mem _ mw_103)
  have q6 := hts (.fieldLink RX5 56 "Patiencery" "undone" "I") (List.mem_cons_of_mem _ mw_33)
  have q7 := hts (.fieldLink RX5 31 "Patiencery" "past" "LPatiencery$Shelf;") (List.mem_cons_of_mem _ mw_22)
  have q8 := hts (.fieldLink RX5 22 "Patiencery" "now" "LPatiencery$Table;") (List.mem_cons_of_mem _ mw_18)
  unfold F_X5_undo at hF
  refine lv_iload_n hx hb dX5_undo_0 rfl (lv_at hl 1 rfl) ?_
  refine lv_iconst (v := (nI 1)) hx hb dX5_undo_1 (by decide) ?_
  refine lv_sipush (v := (nI 200)) hx hb dX5_undo_2 (by decide) ?_
  replace hF := cal1_e hF
  obtain ⟨x1, hc2, hF⟩ := hF
  refine kS_i (As := [.int v1, .int (nI 1), .int (nI 200)]) (rest := []) (wr := [(h_0, oX5 g_0_nextRules g_0_rules h_0_now h_0_past g_0_searcher g_0_dealt g_0_tried P_0), (h_0_past, oX3 h_0_past_lows h_0_past_highs h_0_past_places), (h_0_past_lows, eJ cJ 200 (S_0_past 0)), (h_0_past_highs, eJ cJ 200 (S_0_past 1)), (h_0_past_places, eJ cJ 200 (S_0_past 2)), (h_0_now, oX4 g_0_now_rules h_0_now_lies h_0_now_tops h_0_now_list T_0_now), (h_0_now_lies, eI cI 16 (T_0_now 1)), (h_0_now_tops, eI cI 10 (T_0_now 2)), (h_0_now_list, eI cI 160 (T_0_now 3))]) (w2 := [(h_0, oX5 g_0_nextRules g_0_rules h_0_now h_0_past g_0_searcher g_0_dealt g_0_tried P_0), (h_0_past, oX3 h_0_past_lows h_0_past_highs h_0_past_places), (h_0_past_lows, eJ cJ 200 (S_0_past 0)), (h_0_past_highs, eJ cJ 200 (S_0_past 1)), (h_0_past_places, eJ cJ 200 (S_0_past 2)), (h_0_now, oX4 g_0_now_rules h_0_now_lies h_0_now_tops h_0_now_list T_0_now), (h_0_now_lies, eI cI 16 (T_0_now 1)), (h_0_now_tops, eI cI 10 (T_0_now 2)), (h_0_now_list, eI cI 160 (T_0_now 3))]) hCF hK (c_X5_isWithin l D cI cJ v1 (nI 1) (nI 200) x1 hc2) (va_cwS 3 hts (TBL_S mw_174 mw_175 mw_2 mw_176) rfl rfl rfl pmX5_isWithin.2 ⟨Nat.le_of_ble_eq_true rfl, Nat.le_of_ble_eq_true rfl⟩) hS hA [] [0, 1, 2, 3, 4, 5, 6, 7, 8] rfl rfl rfl rfl (by decide) rfl hl.1 rfl (Nat.le_of_ble_eq_true rfl) ⟨Nat.zero_le _, Nat.zero_le _⟩ dX5_undo_5 rfl (fun H locs hS => ?_)
  refine lv_if_ne (tgt := 21) hx hb dX5_undo_8 (by decide) (fun c_3 => ?_) (fun c_3 => ?_)
  · replace hF := ifn hF c_3
    refine lv_iload_n hx hb dX5_undo_21 rfl (lv_at hl 1 rfl) ?_
    refine lv_aload_n hx hb dX5_undo_22 rfl (lv_at hl 0 rfl) ?_
    refine r_get hx hb hts inX5 hown hK hS 0 7 rfl rfl (by decide) q0 rfl dX5_undo_23 ?_
    refine va_mmin hx hb (hml.trans hl.1.symm) hown q2 q3 q4 q5 (by decide) (by decide) (Nat.zero_le _) (Nat.zero_le _) dX5_undo_26 ?_
    refine lv_istore_n (lv' := [(2, .int (if (P_0 7) < v1 then (P_0 7) else v1)), (0, .ref h_0), (1, .int v1)]) hx hb dX5_undo_29 rfl hl (by decide) rfl (fun ls hl => ?_)
    refine lv_iload_n hx hb dX5_undo_30 rfl (lv_at hl 0 rfl) ?_
    refine lv_if_le (tgt := 69) hx hb dX5_undo_31 (by decide) (fun c_4 => ?_) (fun c_4 => ?_)
    · replace hF := ifp hF c_4
      refine lv_iload_n hx hb dX5_undo_69 rfl (lv_at hl 0 rfl) ?_
      have e9_0 := Option.some.inj hF
      obtain ⟨f9_0, e9_1⟩ := Prod.mk.inj e9_0
      obtain ⟨f9_1, e9_2⟩ := Prod.mk.inj e9_1
      obtain ⟨f9_2, e9_3⟩ := Prod.mk.inj e9_2
      subst f9_0
      subst f9_1
      subst f9_2
      subst e9_3
      exact kret _ _ _ _ rfl hS dX5_undo_70
    · replace hF := ifn hF c_4
      refine lv_aload_n hx hb dX5_undo_34 rfl (lv_at hl 1 rfl) ?_
      refine lv_dup hx hb dX5_undo_35 rfl ?_
      refine r_get hx hb hts inX5 hown hK hS 0 7 rfl rfl (by decide) q0 rfl dX5_undo_36 ?_
      refine lv_iload_n hx hb dX5_undo_39 rfl (lv_at hl 0 rfl) ?_
      refine lv_isub hx hb dX5_undo_40 ?_
      replace hF := bnd_e hF
      obtain ⟨P_0u5, eP_0u5, hF⟩ := hF
      refine r_put (w2 := [(h_0, oX5 g_0_nextRules g_0_rules h_0_now h_0_past g_0_searcher g_0_dealt g_0_tried P_0u5), (h_0_past, oX3 h_0_past_lows h_0_past_highs h_0_past_places), (h_0_past_lows, eJ cJ 200 (S_0_past 0)), (h_0_past_highs, eJ cJ 200 (S_0_past 1)), (h_0_past_places, eJ cJ 200 (S_0_past 2)), (h_0_now, oX4 g_0_now_rules h_0_now_lies h_0_now_tops h_0_now_list T_0_now), (h_0_now_lies, eI cI 16 (T_0_now 1)), (h_0_now_tops, eI cI 10 (T_0_now 2)), (h_0_now_list, eI cI 160 (T_0_now 3))]) hx hb hts inX5 tyX5 tyX5_ok nmX5 hown hK hS 0 7 rfl rfl (by decide) q0 rfl rfl rfl (Nat.le_of_ble_eq_true rfl) dX5_undo_41 (by rw [eP_0u5]; rfl) (fun H locs hS => ?_)
      refine lv_aload_n hx hb dX5_undo_44 rfl (lv_at hl 1 rfl) ?_
      refine lv_dup hx hb dX5_undo_45 rfl ?_
      refine r_get hx hb hts inX5 hown hK hS 0 8 rfl rfl (by decide) q6 rfl dX5_undo_46 ?_
      refine lv_iload_n hx hb dX5_undo_49 rfl (lv_at hl 0 rfl) ?_
      refine lv_iadd hx hb dX5_undo_50 ?_
      replace hF := bnd_e hF
      obtain ⟨P_0u6, eP_0u6, hF⟩ := hF
      refine r_put (w2 := [(h_0, oX5 g_0_nextRules g_0_rules h_0_now h_0_past g_0_searcher g_0_dealt g_0_tried P_0u6), (h_0_past, oX3 h_0_past_lows h_0_past_highs h_0_past_places), (h_0_past_lows, eJ cJ 200 (S_0_past 0)), (h_0_past_highs, eJ cJ 200 (S_0_past 1)), (h_0_past_places, eJ cJ 200 (S_0_past 2)), (h_0_now, oX4 g_0_now_rules h_0_now_lies h_0_now_tops h_0_now_list T_0_now), (h_0_now_lies, eI cI 16 (T_0_now 1)), (h_0_now_tops, eI cI 10 (T_0_now 2)), (h_0_now_list, eI cI 160 (T_0_now 3))]) hx hb hts inX5 tyX5 tyX5_ok nmX5 hown hK hS 0 8 rfl rfl (by decide) q6 rfl rfl rfl (Nat.le_of_ble_eq_true rfl) dX5_undo_51 (by rw [eP_0u6]; rfl) (fun H locs hS => ?_)
      refine lv_aload_n hx hb dX5_undo_54 rfl (lv_at hl 1 rfl) ?_
      refine r_get hx hb hts inX5 hown hK hS 0 3 rfl rfl (by decide) q7 rfl dX5_undo_55 ?_
      refine lv_aload_n hx hb dX5_undo_58 rfl (lv_at hl 1 rfl) ?_
      refine r_get hx hb hts inX5 hown hK hS 0 7 rfl rfl (by decide) q0 rfl dX5_undo_59 ?_
      refine lv_aload_n hx hb dX5_undo_62 rfl (lv_at hl 1 rfl) ?_
      refine r_get hx hb hts inX5 hown hK hS 0 2 rfl rfl (by decide) q8 rfl dX5_undo_63 ?_
      replace hF := cal1_e hF
      obtain ⟨T_0_nowu7, hc8, hF⟩ := hF
      refine kV_v (As := [.int (P_0u6 7), .ref h_0_now]) (rest := []) (wr := [(h_0, oX5 g_0_nextRules g_0_rules h_0_now h_0_past g_0_searcher g_0_dealt g_0_tried P_0u6)]) (w2 := [(h_0, oX5 g_0_nextRules g_0_rules h_0_now h_0_past g_0_searcher g_0_dealt g_0_tried P_0u6), (h_0_past, oX3 h_0_past_lows h_0_past_highs h_0_past_places), (h_0_past_lows, eJ cJ 200 (S_0_past 0)), (h_0_past_highs, eJ cJ 200 (S_0_past 1)), (h_0_past_places, eJ cJ 200 (S_0_past 2)), (h_0_now, oX4 g_0_now_rules h_0_now_lies h_0_now_tops h_0_now_list T_0_nowu7), (h_0_now_lies, eI cI 16 (T_0_nowu7 1)), (h_0_now_tops, eI cI 10 (T_0_nowu7 2)), (h_0_now_list, eI cI 160 (T_0_nowu7 3))]) hCF hK (c_X3_fetch l D cI cJ h_0_past h_0_past_lows h_0_past_highs h_0_past_places h_0_now h_0_now_lies h_0_now_tops h_0_now_list g_0_now_rules 200 S_0_past T_0_now (P_0u6 7) T_0_nowu7 hc8) (cwV 2 hts (TBL_V mw_371 mw_372 mw_373 mw_21 mw_374) rfl rfl rfl pmX3_fetch ⟨Nat.le_of_ble_eq_true rfl, Nat.le_of_ble_eq_true rfl⟩) hS hA [1, 2, 3, 4, 5, 6, 7, 8] [0] rfl rfl rfl rfl (by decide) rfl rfl rfl hl.1 rfl (Nat.le_of_ble_eq_true rfl) ⟨Nat.zero_le _, Nat.zero_le _⟩ dX5_undo_66 rfl (fun H locs hS => ?_)
      refine lv_iload_n hx hb dX5_undo_69 rfl (lv_at hl 0 rfl) ?_
      have e9_0 := Option.some.inj hF
      obtain ⟨f9_0, e9_1⟩ := Prod.mk.inj e9_0
      obtain ⟨f9_1, e9_2⟩ := Prod.mk.inj e9_1
      obtain ⟨f9_2, e9_3⟩ := Prod.mk.inj e9_2
      subst f9_0
      subst f9_1
      subst f9_2
      subst e9_3
      exact kret _ _ _ _ rfl hS dX5_undo_70
  · replace hF := ifp hF c_3
    have e9_0 := Option.some.inj hF
    obtain ⟨f9_0, e9_1⟩ := Prod.mk.inj e9_0
    obtain ⟨f9_1, e9_2⟩ := Prod.mk.inj e9_1
    obtain ⟨f9_2, e9_3⟩ := Prod.mk.inj e9_2
    subst f9_0
    subst f9_1
    subst f9_2
    subst e9_3
    exact kthr 1 164 _ _ _ _ _ rfl (by decide) (List.mem_of_getElem? (i := 11) rfl) hS hl.1 dX5_undo_11 dX5_undo_14 dX5_undo_15 dX5_undo_17 dX5_undo_20
set_option maxHeartbeats 4000000 in
set_option maxRecDepth 100000 in
theorem c_X5_moveAt (l : Launch) (D : va_G) (cI cJ : ClassId) (hfl : l.stackTraces = false) (h_0 h_0_now h_0_now_lies h_0_now_tops h_0_now_list h_0_rules g_0_nextRules g_0_past g_0_searcher g_0_dealt g_0_tried : Nat) (P_0 : Nat → Int32) (r_0_rules : Nat → Int32) (T_0_now : Nat → Nat → Int32) (v1 : Int32) (th : Nat) (rv : Int32) (r_T_0_now : Nat → Nat → Int32) (hF : F_X5_moveAt P_0 r_0_rules T_0_now v1 = some (th, rv, r_T_0_now)) : CtXI l D [(cI, .int), (cJ, .long)] yX5_moveAt wtX5_moveAt ({ frames := 6, cells := 1, slots := 6, locals := 116 } : Room) [.ref h_0, .int v1] [(h_0, oX5 g_0_nextRules h_0_rules h_0_now g_0_past g_0_searcher g_0_dealt g_0_tried P_0), (h_0_now, oX4 h_0_rules h_0_now_lies h_0_now_tops h_0_now_list T_0_now), (h_0_now_lies, eI cI 16 (T_0_now 1)), (h_0_now_tops, eI cI 10 (T_0_now 2)), (h_0_now_list, eI cI 160 (T_0_now 3)), (h_0_rules, oX1 r_0_rules)] [(h_0, oX5 g_0_nextRules h_0_rules h_0_now g_0_past g_0_searcher g_0_dealt g_0_tried P_0), (h_0_now, oX4 h_0_rules h_0_now_lies h_0_now_tops h_0_now_list r_T_0_now), (h_0_now_lies, eI cI 16 (r_T_0_now 1)), (h_0_now_tops, eI cI 10 (r_T_0_now 2)), (h_0_now_list, eI cI 160 (r_T_0_now 3)), (h_0_rules, oX1 r_0_rules)] [(h_0, oX5 g_0_nextRules h_0_rules h_0_now g_0_past g_0_searcher g_0_dealt g_0_tried P_0), (h_0_now, oX4 h_0_rules h_0_now_lies h_0_now_tops h_0_now_list r_T_0_now), (h_0_now_lies, eI cI 16 (r_T_0_now 1)), (h_0_now_tops, eI cI 10 (r_T_0_now 2)), (h_0_now_list, eI cI 160 (r_T_0_now 3)), (h_0_rules, oX1 r_0_rules)] th rv := by
  refine CtXI.of (cc := cX5_moveAt) (maxL := 2) hfl rfl (by decide) rfl (Nat.le_of_ble_eq_true rfl) ⟨rfl, rfl, Nat.le_of_ble_eq_true rfl, Nat.le_of_ble_eq_true rfl⟩ ?_
  intro p e s m args below meth c A H0 Q ls X hS hl kret kthr
  have hCF := X.1
  obtain ⟨⟨hx, hb, hml, hown, hts⟩, hK, hA⟩ := X
  have hl : lv_has ls 2 [(0, .ref h_0), (1, .int v1)] := hl
  have q0 := hts (.fieldLink RX5 22 "Patiencery" "now" "LPatiencery$Table;") (List.mem_cons_of_mem _ mw_18)
  have inX5 : ∀ w ∈ u_ws RX5 TX5 10, w ∈ wtX5_moveAt := fun w h => List.mem_cons_of_mem _ (inlX5 w h)
  unfold F_X5_moveAt at hF
  refine lv_iload_n hx hb dX5_moveAt_0 rfl (lv_at hl 1 rfl) ?_
  refine lv_if_ge (tgt := 14) hx hb dX5_moveAt_1 (by decide) (fun c_1 => ?_) (fun c_1 => ?_)
  · replace hF := ifp hF c_1
    refine lv_aload_n hx hb dX5_moveAt_14 rfl (lv_at hl 0 rfl) ?_
    refine r_get hx hb hts inX5 hown hK hS 0 2 rfl rfl (by decide) q0 rfl dX5_moveAt_15 ?_
    replace hF := cal1_e hF
    obtain ⟨T_0_nowu2, hc3, hF⟩ := hF
    refine kV_v (As := []) (rest := []) (wr := [(h_0, oX5 g_0_nextRules h_0_rules h_0_now g_0_past g_0_searcher g_0_dealt g_0_tried P_0)]) (w2 := [(h_0, oX5 g_0_nextRules h_0_rules h_0_now g_0_past g_0_searcher g_0_dealt g_0_tried P_0), (h_0_now, oX4 h_0_rules h_0_now_lies h_0_now_tops h_0_now_list T_0_nowu2), (h_0_now_lies, eI cI 16 (T_0_nowu2 1)), (h_0_now_tops, eI cI 10 (T_0_nowu2 2)), (h_0_now_list, eI cI 160 (T_0_nowu2 3)), (h_0_rules, oX1 r_0_rules)]) hCF hK (c_X4_listMoves l D cI cJ h_0_now h_0_now_lies h_0_now_tops h_0_now_list h_0_rules r_0_rules T_0_now T_0_nowu2 hc3) (cwV 0 hts (TBL_V mw_239 mw_240 mw_241 mw_17 mw_242) rfl rfl rfl pmX4_listMoves ⟨Nat.le_of_ble_eq_true rfl, Nat.le_of_ble_eq_true rfl⟩) hS hA [1, 2, 3, 4, 5] [0] rfl rfl rfl rfl (by decide) rfl rfl rfl hl.1 rfl (Nat.le_of_ble_eq_true rfl) ⟨Nat.zero_le _, Nat.zero_le _⟩ dX5_moveAt_18 rfl (fun H locs hS => ?_)
    refine lv_aload_n hx hb dX5_moveAt_21 rfl (lv_at hl 0 rfl) ?_
    refine r_get hx hb hts inX5 hown hK hS 0 2 rfl rfl (by decide) q0 rfl dX5_moveAt_22 ?_
    refine lv_iload_n hx hb dX5_moveAt_25 rfl (lv_at hl 1 rfl) ?_
    replace hF := cal1_e hF
    obtain ⟨x4, hc5, hF⟩ := hF
    refine kV_i (As := [.int v1]) (rest := []) (wr := [(h_0, oX5 g_0_nextRules h_0_rules h_0_now g_0_past g_0_searcher g_0_dealt g_0_tried P_0), (h_0_rules, oX1 r_0_rules)]) (w2 := [(h_0, oX5 g_0_nextRules h_0_rules h_0_now g_0_past g_0_searcher g_0_dealt g_0_tried P_0), (h_0_rules, oX1 r_0_rules), (h_0_now, oX4 h_0_rules h_0_now_lies h_0_now_tops h_0_now_list T_0_nowu2), (h_0_now_lies, eI cI 16 (T_0_nowu2 1)), (h_0_now_tops, eI cI 10 (T_0_nowu2 2)), (h_0_now_list, eI cI 160 (T_0_nowu2 3))]) hCF hK (c_X4_listedAt l D cI cJ h_0_now h_0_now_lies h_0_now_tops h_0_now_list h_0_rules T_0_nowu2 v1 x4 hc5) (cwV 1 hts (TBL_V mw_311 mw_312 mw_313 mw_17 mw_314) rfl rfl rfl pmX4_listedAt ⟨Nat.le_of_ble_eq_true rfl, Nat.le_of_ble_eq_true rfl⟩) hS hA [1, 2, 3, 4] [0, 5] rfl rfl rfl rfl (by decide) rfl rfl rfl hl.1 rfl (Nat.le_of_ble_eq_true rfl) ⟨Nat.zero_le _, Nat.zero_le _⟩ dX5_moveAt_26 rfl (fun H locs hS => ?_)
    have e9_0 := Option.some.inj hF
    obtain ⟨f9_0, e9_1⟩ := Prod.mk.inj e9_0
    obtain ⟨f9_1, e9_2⟩ := Prod.mk.inj e9_1
    subst f9_0
    subst f9_1
    subst e9_2
    exact kret _ _ _ _ rfl (hS.sub [0, 2, 3, 4, 5, 1] rfl rfl) dX5_moveAt_29
  · replace hF := ifn hF c_1
    have e9_0 := Option.some.inj hF
    obtain ⟨f9_0, e9_1⟩ := Prod.mk.inj e9_0
    obtain ⟨f9_1, e9_2⟩ := Prod.mk.inj e9_1
    subst f9_0
    subst f9_1
    subst e9_2
    exact kthr 3 187 _ _ _ _ _ rfl (by decide) (List.mem_of_getElem? (i := 12) rfl) hS hl.1 dX5_moveAt_4 dX5_moveAt_7 dX5_moveAt_8 dX5_moveAt_10 dX5_moveAt_13
set_option maxHeartbeats 4000000 in
set_option maxRecDepth 100000 in
theorem c_X5_card (l : Launch) (D : va_G) (cI cJ : ClassId) (hfl : l.stackTraces = false) (h_0 h_0_now h_0_now_lies h_0_now_tops h_0_now_list h_0_rules g_0_nextRules g_0_past g_0_searcher g_0_dealt g_0_tried : Nat) (P_0 : Nat → Int32) (T_0_now : Nat → Nat → Int32) (r_0_rules : Nat → Int32) (v1 : Int32) (v2 : Int32) (th : Nat) (rv : Int32) (hF : F_X5_card P_0 T_0_now r_0_rules v1 v2 = some (th, rv)) : CtXI l D [(cI, .int), (cJ, .long)] yX5_card wtX5_card ({ frames := 6, cells := 1, slots := 6, locals := 82 } : Room) [.ref h_0, .int v1, .int v2] [(h_0, oX5 g_0_nextRules h_0_rules h_0_now g_0_past g_0_searcher g_0_dealt g_0_tried P_0), (h_0_now, oX4 h_0_rules h_0_now_lies h_0_now_tops h_0_now_list T_0_now), (h_0_now_lies, eI cI 16 (T_0_now 1)), (h_0_now_tops, eI cI 10 (T_0_now 2)), (h_0_now_list, eI cI 160 (T_0_now 3)), (h_0_rules, oX1 r_0_rules)] [(h_0, oX5 g_0_nextRules h_0_rules h_0_now g_0_past g_0_searcher g_0_dealt g_0_tried P_0), (h_0_now, oX4 h_0_rules h_0_now_lies h_0_now_tops h_0_now_list T_0_now), (h_0_now_lies, eI cI 16 (T_0_now 1)), (h_0_now_tops, eI cI 10 (T_0_now 2)), (h_0_now_list, eI cI 160 (T_0_now 3)), (h_0_rules, oX1 r_0_rules)] [(h_0, oX5 g_0_nextRules h_0_rules h_0_now g_0_past g_0_searcher g_0_dealt g_0_tried P_0), (h_0_now, oX4 h_0_rules h_0_now_lies h_0_now_tops h_0_now_list T_0_now), (h_0_now_lies, eI cI 16 (T_0_now 1)), (h_0_now_tops, eI cI 10 (T_0_now 2)), (h_0_now_list, eI cI 160 (T_0_now 3)), (h_0_rules, oX1 r_0_rules)] th rv := by
  refine CtXI.of (cc := cX5_card) (maxL := 3) hfl rfl (by decide) rfl (Nat.le_of_ble_eq_true rfl) ⟨rfl, rfl, Nat.le_of_ble_eq_true rfl, Nat.le_of_ble_eq_true rfl⟩ ?_
  intro p e s m args below meth c A H0 Q ls X hS hl kret kthr
  have hCF := X.1
  obtain ⟨⟨hx, hb, hml, hown, hts⟩, hK, hA⟩ := X
  have hl : lv_has ls 3 [(0, .ref h_0), (1, .int v1), (2, .int v2)] := hl
  have q0 := hts (.fieldLink RX5 22 "Patiencery" "now" "LPatiencery$Table;") (List.mem_cons_of_mem _ mw_18)
  have inX5 : ∀ w ∈ u_ws RX5 TX5 10, w ∈ wtX5_card := fun w h => List.mem_cons_of_mem _ (inlX5 w h)
  unfold F_X5_card at hF
  refine lv_iload_n hx hb dX5_card_0 rfl (lv_at hl 1 rfl) ?_
  refine lv_iconst (v := (nI 0)) hx hb dX5_card_1 (by decide) ?_
  refine lv_bipush (v := (nI 9)) hx hb dX5_card_2 (by decide) ?_
  replace hF := cal1_e hF
  obtain ⟨x1, hc2, hF⟩ := hF
  refine kS_i (As := [.int v1, .int (nI 0), .int (nI 9)]) (rest := []) (wr := [(h_0, oX5 g_0_nextRules h_0_rules h_0_now g_0_past g_0_searcher g_0_dealt g_0_tried P_0), (h_0_now, oX4 h_0_rules h_0_now_lies h_0_now_tops h_0_now_list T_0_now), (h_0_now_lies, eI cI 16 (T_0_now 1)), (h_0_now_tops, eI cI 10 (T_0_now 2)), (h_0_now_list, eI cI 160 (T_0_now 3)), (h_0_rules, oX1 r_0_rules)]) (w2 := [(h_0, oX5 g_0_nextRules h_0_rules h_0_now g_0_past g_0_searcher g_0_dealt g_0_tried P_0), (h_0_now, oX4 h_0_rules h_0_now_lies h_0_now_tops h_0_now_list T_0_now), (h_0_now_lies, eI cI 16 (T_0_now 1)), (h_0_now_tops, eI cI 10 (T_0_now 2)), (h_0_now_list, eI cI 160 (T_0_now 3)), (h_0_rules, oX1 r_0_rules)]) hCF hK (c_X5_isWithin l D cI cJ v1 (nI 0) (nI 9) x1 hc2) (va_cwS 3 hts (TBL_S mw_174 mw_175 mw_2 mw_176) rfl rfl rfl pmX5_isWithin.2 ⟨Nat.le_of_ble_eq_true rfl, Nat.le_of_ble_eq_true rfl⟩) hS hA [] [0, 1, 2, 3, 4, 5] rfl rfl rfl rfl (by decide) rfl hl.1 rfl (Nat.le_of_ble_eq_true rfl) ⟨Nat.zero_le _, Nat.zero_le _⟩ dX5_card_4 rfl (fun H locs hS => ?_)
  refine lv_if_eq (tgt := 14) hx hb dX5_card_7 (by decide) (fun c_3 => ?_) (fun c_3 => ?_)
  · replace hF := ifp hF c_3
    have e9_0 := Option.some.inj hF
    obtain ⟨f9_0, e9_1⟩ := Prod.mk.inj e9_0
    subst f9_0
    subst e9_1
    exact kthr 1 194 _ _ _ _ _ rfl (by decide) (List.mem_of_getElem? (i := 13) rfl) hS hl.1 dX5_card_14 dX5_card_17 dX5_card_18 dX5_card_20 dX5_card_23
  · replace hF := ifn hF c_3
    refine lv_iload_n hx hb dX5_card_10 rfl (lv_at hl 2 rfl) ?_
    refine lv_if_ge (tgt := 24) hx hb dX5_card_11 (by decide) (fun c_4 => ?_) (fun c_4 => ?_)
    · replace hF := ifp hF c_4
      refine lv_iload_n hx hb dX5_card_24 rfl (lv_at hl 1 rfl) ?_
      refine lv_bipush (v := (nI 8)) hx hb dX5_card_25 (by decide) ?_
      refine lv_icmp_ne (tgt := 39) hx hb dX5_card_27 (by decide) (fun c_5 => ?_) (fun c_5 => ?_)
      · replace hF := ifn hF c_5
        refine lv_iload_n hx hb dX5_card_39 rfl (lv_at hl 1 rfl) ?_
        replace hF := cal1_e hF
        obtain ⟨x6, hc7, hF⟩ := hF
        refine kS_i (As := [.int v1]) (rest := []) (wr := [(h_0, oX5 g_0_nextRules h_0_rules h_0_now g_0_past g_0_searcher g_0_dealt g_0_tried P_0), (h_0_now, oX4 h_0_rules h_0_now_lies h_0_now_tops h_0_now_list T_0_now), (h_0_now_lies, eI cI 16 (T_0_now 1)), (h_0_now_tops, eI cI 10 (T_0_now 2)), (h_0_now_list, eI cI 160 (T_0_now 3)), (h_0_rules, oX1 r_0_rules)]) (w2 := [(h_0, oX5 g_0_nextRules h_0_rules h_0_now g_0_past g_0_searcher g_0_dealt g_0_tried P_0), (h_0_now, oX4 h_0_rules h_0_now_lies h_0_now_tops h_0_now_list T_0_now), (h_0_now_lies, eI cI 16 (T_0_now 1)), (h_0_now_tops, eI cI 10 (T_0_now 2)), (h_0_now_list, eI cI 160 (T_0_now 3)), (h_0_rules, oX1 r_0_rules)]) hCF hK (c_X5_isColumn l D cI cJ v1 x6 hc7) (va_cwS 1 hts (TBL_S mw_325 mw_243 mw_2 mw_244) rfl rfl rfl pmX5_isColumn.2 ⟨Nat.le_of_ble_eq_true rfl, Nat.le_of_ble_eq_true rfl⟩) hS hA [] [0, 1, 2, 3, 4, 5] rfl rfl rfl rfl (by decide) rfl hl.1 rfl (Nat.le_of_ble_eq_true rfl) ⟨Nat.zero_le _, Nat.zero_le _⟩ dX5_card_40 rfl (fun H locs hS => ?_)
        refine lv_if_eq (tgt := 56) hx hb dX5_card_43 (by decide) (fun c_8 => ?_) (fun c_8 => ?_)
        · replace hF := ifp hF c_8
          refine lv_aload_n hx hb dX5_card_56 rfl (lv_at hl 0 rfl) ?_
          refine r_get hx hb hts inX5 hown hK hS 0 2 rfl rfl (by decide) q0 rfl dX5_card_57 ?_
          refine lv_iload_n hx hb dX5_card_60 rfl (lv_at hl 1 rfl) ?_
          refine lv_iload_n hx hb dX5_card_61 rfl (lv_at hl 2 rfl) ?_
          replace hF := cal1_e hF
          obtain ⟨x9, hc10, hF⟩ := hF
          refine kV_i (As := [.int v1, .int v2]) (rest := []) (wr := [(h_0, oX5 g_0_nextRules h_0_rules h_0_now g_0_past g_0_searcher g_0_dealt g_0_tried P_0), (h_0_rules, oX1 r_0_rules)]) (w2 := [(h_0, oX5 g_0_nextRules h_0_rules h_0_now g_0_past g_0_searcher g_0_dealt g_0_tried P_0), (h_0_rules, oX1 r_0_rules), (h_0_now, oX4 h_0_rules h_0_now_lies h_0_now_tops h_0_now_list T_0_now), (h_0_now_lies, eI cI 16 (T_0_now 1)), (h_0_now_tops, eI cI 10 (T_0_now 2)), (h_0_now_list, eI cI 160 (T_0_now 3))]) hCF hK (c_X4_fromTop l D cI cJ h_0_now h_0_now_lies h_0_now_tops h_0_now_list h_0_rules T_0_now v1 v2 x9 hc10) (cwV 2 hts (TBL_V mw_504 mw_291 mw_292 mw_17 mw_293) rfl rfl rfl pmX4_fromTop ⟨Nat.le_of_ble_eq_true rfl, Nat.le_of_ble_eq_true rfl⟩) hS hA [1, 2, 3, 4] [0, 5] rfl rfl rfl rfl (by decide) rfl rfl rfl hl.1 rfl (Nat.le_of_ble_eq_true rfl) ⟨Nat.zero_le _, Nat.zero_le _⟩ dX5_card_62 rfl (fun H locs hS => ?_)
          have e9_0 := Option.some.inj hF
          obtain ⟨f9_0, e9_1⟩ := Prod.mk.inj e9_0
          subst f9_0
          subst e9_1
          exact kret _ _ _ _ rfl (hS.sub [0, 2, 3, 4, 5, 1] rfl rfl) dX5_card_65
        · replace hF := ifn hF c_8
          refine lv_aload_n hx hb dX5_card_46 rfl (lv_at hl 0 rfl) ?_
          refine r_get hx hb hts inX5 hown hK hS 0 2 rfl rfl (by decide) q0 rfl dX5_card_47 ?_
          refine lv_iload_n hx hb dX5_card_50 rfl (lv_at hl 1 rfl) ?_
          refine lv_iload_n hx hb dX5_card_51 rfl (lv_at hl 2 rfl) ?_
          replace hF := cal1_e hF
          obtain ⟨x11, hc12, hF⟩ := hF
          refine kV_i (As := [.int v1, .int v2]) (rest := []) (wr := [(h_0, oX5 g_0_nextRules h_0_rules h_0_now g_0_past g_0_searcher g_0_dealt g_0_tried P_0), (h_0_rules, oX1 r_0_rules)]) (w2 := [(h_0, oX5 g_0_nextRules h_0_rules h_0_now g_0_past g_0_searcher g_0_dealt g_0_tried P_0), (h_0_rules, oX1 r_0_rules), (h_0_now, oX4 h_0_rules h_0_now_lies h_0_now_tops h_0_now_list T_0_now), (h_0_now_lies, eI cI 16 (T_0_now 1)), (h_0_now_tops, eI cI 10 (T_0_now 2)), (h_0_now_list, eI cI 160 (T_0_now 3))]) hCF hK (c_X4_seenInColumn l D cI cJ h_0_now h_0_now_lies h_0_now_tops h_0_now_list h_0_rules T_0_now v1 v2 x11 hc12) (cwV 2 hts (TBL_V mw_496 mw_497 mw_498 mw_17 mw_499) rfl rfl rfl pmX4_seenInColumn ⟨Nat.le_of_ble_eq_true rfl, Nat.le_of_ble_eq_true rfl⟩) hS hA [1, 2, 3, 4] [0, 5] rfl rfl rfl rfl (by decide) rfl rfl rfl hl.1 rfl (Nat.le_of_ble_eq_true rfl) ⟨Nat.zero_le _, Nat.zero_le _⟩ dX5_card_52 rfl (fun H locs hS => ?_)
          have e9_0 := Option.some.inj hF
          obtain ⟨f9_0, e9_1⟩ := Prod.mk.inj e9_0
          subst f9_0
          subst e9_1
          exact kret _ _ _ _ rfl (hS.sub [0, 2, 3, 4, 5, 1] rfl rfl) dX5_card_55
      · replace hF := ifp hF c_5
        refine lv_aload_n hx hb dX5_card_30 rfl (lv_at hl 0 rfl) ?_
        refine r_get hx hb hts inX5 hown hK hS 0 2 rfl rfl (by decide) q0 rfl dX5_card_31 ?_
        refine lv_iload_n hx hb dX5_card_34 rfl (lv_at hl 2 rfl) ?_
        replace hF := cal1_e hF
        obtain ⟨x13, hc14, hF⟩ := hF
        refine kV_i (As := [.int v2]) (rest := []) (wr := [(h_0, oX5 g_0_nextRules h_0_rules h_0_now g_0_past g_0_searcher g_0_dealt g_0_tried P_0)]) (w2 := [(h_0, oX5 g_0_nextRules h_0_rules h_0_now g_0_past g_0_searcher g_0_dealt g_0_tried P_0), (h_0_now, oX4 h_0_rules h_0_now_lies h_0_now_tops h_0_now_list T_0_now), (h_0_now_lies, eI cI 16 (T_0_now 1)), (h_0_now_tops, eI cI 10 (T_0_now 2)), (h_0_now_list, eI cI 160 (T_0_now 3)), (h_0_rules, oX1 r_0_rules)]) hCF hK (c_X4_highestUp l D cI cJ h_0_now h_0_now_lies h_0_now_tops h_0_now_list h_0_rules T_0_now r_0_rules v2 x13 hc14) (cwV 1 hts (TBL_V mw_490 mw_491 mw_492 mw_17 mw_493) rfl rfl rfl pmX4_highestUp ⟨Nat.le_of_ble_eq_true rfl, Nat.le_of_ble_eq_true rfl⟩) hS hA [1, 2, 3, 4, 5] [0] rfl rfl rfl rfl (by decide) rfl rfl rfl hl.1 rfl (Nat.le_of_ble_eq_true rfl) ⟨Nat.zero_le _, Nat.zero_le _⟩ dX5_card_35 rfl (fun H locs hS => ?_)
        have e9_0 := Option.some.inj hF
        obtain ⟨f9_0, e9_1⟩ := Prod.mk.inj e9_0
        subst f9_0
        subst e9_1
        exact kret _ _ _ _ rfl hS dX5_card_38
    · replace hF := ifn hF c_4
      have e9_0 := Option.some.inj hF
      obtain ⟨f9_0, e9_1⟩ := Prod.mk.inj e9_0
      subst f9_0
      subst e9_1
      exact kthr 1 194 _ _ _ _ _ rfl (by decide) (List.mem_of_getElem? (i := 13) rfl) hS hl.1 dX5_card_14 dX5_card_17 dX5_card_18 dX5_card_20 dX5_card_23
set_option maxHeartbeats 4000000 in
set_option maxRecDepth 100000 in
theorem c_J6_bitCount_0f7a4 (l : Launch) (D : va_G) (cI cJ : ClassId) (v0 : Int32) (rv : Int32) (hF : F_J6_bitCount_0f7a4 v0 = some rv) : CtI l D [(cI, .int), (cJ, .long)] yJ6_bitCount_0f7a4 wtJ6_bitCount_0f7a4 ({ frames := 0, cells := 0, slots := 0, locals := 0 } : Room) [.int v0] [] [] rv := by
  refine CtI.of (cc := cJ6_bitCount_0f7a4) (maxL := 1) (by decide) rfl (Nat.le_of_ble_eq_true rfl) ?_
  intro p e s m args below meth c A H0 Q ls X hS hl kret
  have hCF := X.1
  obtain ⟨⟨hx, hb, hml, hown, hts⟩, hK, hA⟩ := X
  have hl : lv_has ls 1 [(0, .int v0)] := hl
  have q0 := hts (.constant RJ6 265 (1431655765)) (List.mem_cons_of_mem _ mw_473)
  have q1 := hts (.constant RJ6 266 (858993459)) (List.mem_cons_of_mem _ mw_474)
  have q2 := hts (.constant RJ6 267 (252645135)) (List.mem_cons_of_mem _ mw_475)
  unfold F_J6_bitCount_0f7a4 at hF
  refine lv_iload_n hx hb dJ6_bitCount_0f7a4_0 rfl (lv_at hl 0 rfl) ?_
  refine lv_iload_n hx hb dJ6_bitCount_0f7a4_1 rfl (lv_at hl 0 rfl) ?_
  refine lv_iconst (v := (nI 1)) hx hb dJ6_bitCount_0f7a4_2 (by decide) ?_
  refine lv_iushr hx hb dJ6_bitCount_0f7a4_3 rfl ?_
  refine lv_ldcw (v := (nI 1431655765)) hx hb hown q0 dJ6_bitCount_0f7a4_4 ?_
  refine lv_iand hx hb dJ6_bitCount_0f7a4_7 ?_
  refine lv_isub hx hb dJ6_bitCount_0f7a4_8 ?_
  refine lv_istore_n (lv' := [(0, .int (v0 - (((v0.toUInt32 >>> (((nI 1) : Int32).toUInt32 &&& Int32.toUInt32 31)).toInt32) &&& (nI 1431655765))))]) hx hb dJ6_bitCount_0f7a4_9 rfl hl (by decide) rfl (fun ls hl => ?_)
  refine lv_iload_n hx hb dJ6_bitCount_0f7a4_10 rfl (lv_at hl 0 rfl) ?_
  refine lv_ldcw (v := (nI 858993459)) hx hb hown q1 dJ6_bitCount_0f7a4_11 ?_
  refine lv_iand hx hb dJ6_bitCount_0f7a4_14 ?_
  refine lv_iload_n hx hb dJ6_bitCount_0f7a4_15 rfl (lv_at hl 0 rfl) ?_
  refine lv_iconst (v := (nI 2)) hx hb dJ6_bitCount_0f7a4_16 (by decide) ?_
  refine lv_iushr hx hb dJ6_bitCount_0f7a4_17 rfl ?_
  refine lv_ldcw (v := (nI 858993459)) hx hb hown q1 dJ6_bitCount_0f7a4_18 ?_
  refine lv_iand hx hb dJ6_bitCount_0f7a4_21 ?_
  refine lv_iadd hx hb dJ6_bitCount_0f7a4_22 ?_
  refine lv_istore_n (lv' := [(0, .int (((v0 - (((v0.toUInt32 >>> (((nI 1) : Int32).toUInt32 &&& Int32.toUInt32 31)).toInt32) &&& (nI 1431655765))) &&& (nI 858993459)) + (((((v0 - (((v0.toUInt32 >>> (((nI 1) : Int32).toUInt32 &&& Int32.toUInt32 31)).toInt32) &&& (nI 1431655765))) : Int32).toUInt32 >>> (((nI 2) : Int32).toUInt32 &&& Int32.toUInt32 31)).toInt32) &&& (nI 858993459))))]) hx hb dJ6_bitCount_0f7a4_23 rfl hl (by decide) rfl (fun ls hl => ?_)
  refine lv_iload_n hx hb dJ6_bitCount_0f7a4_24 rfl (lv_at hl 0 rfl) ?_
  refine lv_iload_n hx hb dJ6_bitCount_0f7a4_25 rfl (lv_at hl 0 rfl) ?_
  refine lv_iconst (v := (nI 4)) hx hb dJ6_bitCount_0f7a4_26 (by decide) ?_
  refine lv_iushr hx hb dJ6_bitCount_0f7a4_27 rfl ?_
  refine lv_iadd hx hb dJ6_bitCount_0f7a4_28 ?_
  refine lv_ldcw (v := (nI 252645135)) hx hb hown q2 dJ6_bitCount_0f7a4_29 ?_
  refine lv_iand hx hb dJ6_bitCount_0f7a4_32 ?_
  refine lv_istore_n (lv' := [(0, .int (((((v0 - (((v0.toUInt32 >>> (((nI 1) : Int32).toUInt32 &&& Int32.toUInt32 31)).toInt32) &&& (nI 1431655765))) &&& (nI 858993459)) + (((((v0 - (((v0.toUInt32 >>> (((nI 1) : Int32).toUInt32 &&& Int32.toUInt32 31)).toInt32) &&& (nI 1431655765))) : Int32).toUInt32 >>> (((nI 2) : Int32).toUInt32 &&& Int32.toUInt32 31)).toInt32) &&& (nI 858993459))) + ((((((v0 - (((v0.toUInt32 >>> (((nI 1) : Int32).toUInt32 &&& Int32.toUInt32 31)).toInt32) &&& (nI 1431655765))) &&& (nI 858993459)) + (((((v0 - (((v0.toUInt32 >>> (((nI 1) : Int32).toUInt32 &&& Int32.toUInt32 31)).toInt32) &&& (nI 1431655765))) : Int32).toUInt32 >>> (((nI 2) : Int32).toUInt32 &&& Int32.toUInt32 31)).toInt32) &&& (nI 858993459))) : Int32).toUInt32 >>> (((nI 4) : Int32).toUInt32 &&& Int32.toUInt32 31)).toInt32)) &&& (nI 252645135)))]) hx hb dJ6_bitCount_0f7a4_33 rfl hl (by decide) rfl (fun ls hl => ?_)
  refine lv_iload_n hx hb dJ6_bitCount_0f7a4_34 rfl (lv_at hl 0 rfl) ?_
  refine lv_iload_n hx hb dJ6_bitCount_0f7a4_35 rfl (lv_at hl 0 rfl) ?_
  refine lv_bipush (v := (nI 8)) hx hb dJ6_bitCount_0f7a4_36 (by decide) ?_
  refine lv_iushr hx hb dJ6_bitCount_0f7a4_38 rfl ?_
  refine lv_iadd hx hb dJ6_bitCount_0f7a4_39 ?_
  refine lv_istore_n (lv' := [(0, .int ((((((v0 - (((v0.toUInt32 >>> (((nI 1) : Int32).toUInt32 &&& Int32.toUInt32 31)).toInt32) &&& (nI 1431655765))) &&& (nI 858993459)) + (((((v0 - (((v0.toUInt32 >>> (((nI 1) : Int32).toUInt32 &&& Int32.toUInt32 31)).toInt32) &&& (nI 1431655765))) : Int32).toUInt32 >>> (((nI 2) : Int32).toUInt32 &&& Int32.toUInt32 31)).toInt32) &&& (nI 858993459))) + ((((((v0 - (((v0.toUInt32 >>> (((nI 1) : Int32).toUInt32 &&& Int32.toUInt32 31)).toInt32) &&& (nI 1431655765))) &&& (nI 858993459)) + (((((v0 - (((v0.toUInt32 >>> (((nI 1) : Int32).toUInt32 &&& Int32.toUInt32 31)).toInt32) &&& (nI 1431655765))) : Int32).toUInt32 >>> (((nI 2) : Int32).toUInt32 &&& Int32.toUInt32 31)).toInt32) &&& (nI 858993459))) : Int32).toUInt32 >>> (((nI 4) : Int32).toUInt32 &&& Int32.toUInt32 31)).toInt32)) &&& (nI 252645135)) + ((((((((v0 - (((v0.toUInt32 >>> (((nI 1) : Int32).toUInt32 &&& Int32.toUInt32 31)).toInt32) &&& (nI 1431655765))) &&& (nI 858993459)) + (((((v0 - (((v0.toUInt32 >>> (((nI 1) : Int32).toUInt32 &&& Int32.toUInt32 31)).toInt32) &&& (nI 1431655765))) : Int32).toUInt32 >>> (((nI 2) : Int32).toUInt32 &&& Int32.toUInt32 31)).toInt32) &&& (nI 858993459))) + ((((((v0 - (((v0.toUInt32 >>> (((nI 1) : Int32).toUInt32 &&& Int32.toUInt32 31)).toInt32) &&& (nI 1431655765))) &&& (nI 858993459)) + (((((v0 - (((v0.toUInt32 >>> (((nI 1) : Int32).toUInt32 &&& Int32.toUInt32 31)).toInt32) &&& (nI 1431655765))) : Int32).toUInt32 >>> (((nI 2) : Int32).toUInt32 &&& Int32.toUInt32 31)).toInt32) &&& (nI 858993459))) : Int32).toUInt32 >>> (((nI 4) : Int32).toUInt32 &&& Int32.toUInt32 31)).toInt32)) &&& (nI 252645135)) : Int32).toUInt32 >>> (((nI 8) : Int32).toUInt32 &&& Int32.toUInt32 31)).toInt32)))]) hx hb dJ6_bitCount_0f7a4_40 rfl hl (by decide) rfl (fun ls hl => ?_)
  refine lv_iload_n hx hb dJ6_bitCount_0f7a4_41 rfl (lv_at hl 0 rfl) ?_
  refine lv_iload_n hx hb dJ6_bitCount_0f7a4_42 rfl (lv_at hl 0 rfl) ?_
  refine lv_bipush (v := (nI 16)) hx hb dJ6_bitCount_0f7a4_43 (by decide) ?_
  refine lv_iushr hx hb dJ6_bitCount_0f7a4_45 rfl ?_
  refine lv_iadd hx hb dJ6_bitCount_0f7a4_46 ?_
  refine lv_istore_n (lv' := [(0, .int (((((((v0 - (((v0.toUInt32 >>> (((nI 1) : Int32).toUInt32 &&& Int32.toUInt32 31)).toInt32) &&& (nI 1431655765))) &&& (nI 858993459)) + (((((v0 - (((v0.toUInt32 >>> (((nI 1) : Int32).toUInt32 &&& Int32.toUInt32 31)).toInt32) &&& (nI 1431655765))) : Int32).toUInt32 >>> (((nI 2) : Int32).toUInt32 &&& Int32.toUInt32 31)).toInt32) &&& (nI 858993459))) + ((((((v0 - (((v0.toUInt32 >>> (((nI 1) : Int32).toUInt32 &&& Int32.toUInt32 31)).toInt32) &&& (nI 1431655765))) &&& (nI 858993459)) + (((((v0 - (((v0.toUInt32 >>> (((nI 1) : Int32).toUInt32 &&& Int32.toUInt32 31)).toInt32) &&& (nI 1431655765))) : Int32).toUInt32 >>> (((nI 2) : Int32).toUInt32 &&& Int32.toUInt32 31)).toInt32) &&& (nI 858993459))) : Int32).toUInt32 >>> (((nI 4) : Int32).toUInt32 &&& Int32.toUInt32 31)).toInt32)) &&& (nI 252645135)) + ((((((((v0 - (((v0.toUInt32 >>> (((nI 1) : Int32).toUInt32 &&& Int32.toUInt32 31)).toInt32) &&& (nI 1431655765))) &&& (nI 858993459)) + (((((v0 - (((v0.toUInt32 >>> (((nI 1) : Int32).toUInt32 &&& Int32.toUInt32 31)).toInt32) &&& (nI 1431655765))) : Int32).toUInt32 >>> (((nI 2) : Int32).toUInt32 &&& Int32.toUInt32 31)).toInt32) &&& (nI 858993459))) + ((((((v0 - (((v0.toUInt32 >>> (((nI 1) : Int32).toUInt32 &&& Int32.toUInt32 31)).toInt32) &&& (nI 1431655765))) &&& (nI 858993459)) + (((((v0 - (((v0.toUInt32 >>> (((nI 1) : Int32).toUInt32 &&& Int32.toUInt32 31)).toInt32) &&& (nI 1431655765))) : Int32).toUInt32 >>> (((nI 2) : Int32).toUInt32 &&& Int32.toUInt32 31)).toInt32) &&& (nI 858993459))) : Int32).toUInt32 >>> (((nI 4) : Int32).toUInt32 &&& Int32.toUInt32 31)).toInt32)) &&& (nI 252645135)) : Int32).toUInt32 >>> (((nI 8) : Int32).toUInt32 &&& Int32.toUInt32 31)).toInt32)) + (((((((((v0 - (((v0.toUInt32 >>> (((nI 1) : Int32).toUInt32 &&& Int32.toUInt32 31)).toInt32) &&& (nI 1431655765))) &&& (nI 858993459)) + (((((v0 - (((v0.toUInt32 >>> (((nI 1) : Int32).toUInt32 &&& Int32.toUInt32 31)).toInt32) &&& (nI 1431655765))) : Int32).toUInt32 >>> (((nI 2) : Int32).toUInt32 &&& Int32.toUInt32 31)).toInt32) &&& (nI 858993459))) + ((((((v0 - (((v0.toUInt32 >>> (((nI 1) : Int32).toUInt32 &&& Int32.toUInt32 31)).toInt32) &&& (nI 1431655765))) &&& (nI 858993459)) + (((((v0 - (((v0.toUInt32 >>> (((nI 1) : Int32).toUInt32 &&& Int32.toUInt32 31)).toInt32) &&& (nI 1431655765))) : Int32).toUInt32 >>> (((nI 2) : Int32).toUInt32 &&& Int32.toUInt32 31)).toInt32) &&& (nI 858993459))) : Int32).toUInt32 >>> (((nI 4) : Int32).toUInt32 &&& Int32.toUInt32 31)).toInt32)) &&& (nI 252645135)) + ((((((((v0 - (((v0.toUInt32 >>> (((nI 1) : Int32).toUInt32 &&& Int32.toUInt32 31)).toInt32) &&& (nI 1431655765))) &&& (nI 858993459)) + (((((v0 - (((v0.toUInt32 >>> (((nI 1) : Int32).toUInt32 &&& Int32.toUInt32 31)).toInt32) &&& (nI 1431655765))) : Int32).toUInt32 >>> (((nI 2) : Int32).toUInt32 &&& Int32.toUInt32 31)).toInt32) &&& (nI 858993459))) + ((((((v0 - (((v0.toUInt32 >>> (((nI 1) : Int32).toUInt32 &&& Int32.toUInt32 31)).toInt32) &&& (nI 1431655765))) &&& (nI 858993459)) + (((((v0 - (((v0.toUInt32 >>> (((nI 1) : Int32).toUInt32 &&& Int32.toUInt32 31)).toInt32) &&& (nI 1431655765))) : Int32).toUInt32 >>> (((nI 2) : Int32).toUInt32 &&& Int32.toUInt32 31)).toInt32) &&& (nI 858993459))) : Int32).toUInt32 >>> (((nI 4) : Int32).toUInt32 &&& Int32.toUInt32 31)).toInt32)) &&& (nI 252645135)) : Int32).toUInt32 >>> (((nI 8) : Int32).toUInt32 &&& Int32.toUInt32 31)).toInt32)) : Int32).toUInt32 >>> (((nI 16) : Int32).toUInt32 &&& Int32.toUInt32 31)).toInt32)))]) hx hb dJ6_bitCount_0f7a4_47 rfl hl (by decide) rfl (fun ls hl => ?_)
  refine lv_iload_n hx hb dJ6_bitCount_0f7a4_48 rfl (lv_at hl 0 rfl) ?_
  refine lv_bipush (v := (nI 63)) hx hb dJ6_bitCount_0f7a4_49 (by decide) ?_
  refine lv_iand hx hb dJ6_bitCount_0f7a4_51 ?_
  have e9_0 := Option.some.inj hF
  subst e9_0
  exact kret _ _ _ _ hS dJ6_bitCount_0f7a4_52
set_option maxHeartbeats 4000000 in
set_option maxRecDepth 100000 in
theorem c_X5_told (l : Launch) (D : va_G) (cI cJ : ClassId) (hfl : l.stackTraces = false) (h_0 h_0_now h_0_now_lies h_0_now_tops h_0_now_list h_0_rules g_0_nextRules g_0_past g_0_searcher g_0_dealt g_0_tried : Nat) (P_0 : Nat → Int32) (T_0_now : Nat → Nat → Int32) (r_0_rules : Nat → Int32) (v1 : Int32) (th : Nat) (rv : Int32) (hF : F_X5_told P_0 T_0_now r_0_rules v1 = some (th, rv)) : CtXI l D [(cI, .int), (cJ, .long)] yX5_told wtX5_told ({ frames := 6, cells := 1, slots := 6, locals := 84 } : Room) [.ref h_0, .int v1] [(h_0, oX5 g_0_nextRules h_0_rules h_0_now g_0_past g_0_searcher g_0_dealt g_0_tried P_0), (h_0_now, oX4 h_0_rules h_0_now_lies h_0_now_tops h_0_now_list T_0_now), (h_0_now_lies, eI cI 16 (T_0_now 1)), (h_0_now_tops, eI cI 10 (T_0_now 2)), (h_0_now_list, eI cI 160 (T_0_now 3)), (h_0_rules, oX1 r_0_rules)] [(h_0, oX5 g_0_nextRules h_0_rules h_0_now g_0_past g_0_searcher g_0_dealt g_0_tried P_0), (h_0_now, oX4 h_0_rules h_0_now_lies h_0_now_tops h_0_now_list T_0_now), (h_0_now_lies, eI cI 16 (T_0_now 1)), (h_0_now_tops, eI cI 10 (T_0_now 2)), (h_0_now_list, eI cI 160 (T_0_now 3)), (h_0_rules, oX1 r_0_rules)] [(h_0, oX5 g_0_nextRules h_0_rules h_0_now g_0_past g_0_searcher g_0_dealt g_0_tried P_0), (h_0_now, oX4 h_0_rules h_0_now_lies h_0_now_tops h_0_now_list T_0_now), (h_0_now_lies, eI cI 16 (T_0_now 1)), (h_0_now_tops, eI cI 10 (T_0_now 2)), (h_0_now_list, eI cI 160 (T_0_now 3)), (h_0_rules, oX1 r_0_rules)] th rv := by
  refine CtXI.of (cc := cX5_told) (maxL := 2) hfl rfl (by decide) rfl (Nat.le_of_ble_eq_true rfl) ⟨rfl, rfl, Nat.le_of_ble_eq_true rfl, Nat.le_of_ble_eq_true rfl⟩ ?_
  intro p e s m args below meth c A H0 Q ls X hS hl kret kthr
  have hCF := X.1
  obtain ⟨⟨hx, hb, hml, hown, hts⟩, hK, hA⟩ := X
  have hl : lv_has ls 2 [(0, .ref h_0), (1, .int v1)] := hl
  have q0 := hts (.fieldLink RX5 22 "Patiencery" "now" "LPatiencery$Table;") (List.mem_cons_of_mem _ mw_18)
  have inX5 : ∀ w ∈ u_ws RX5 TX5 10, w ∈ wtX5_told := fun w h => List.mem_cons_of_mem _ (inlX5 w h)
  have q2 := hts (.fieldLink RX5 52 "Patiencery" "done" "I") (List.mem_cons_of_mem _ mw_32)
  have q3 := hts (.fieldLink RX5 56 "Patiencery" "undone" "I") (List.mem_cons_of_mem _ mw_33)
  have q4 := hts (.fieldLink RX5 207 "Patiencery$Table" "turned" "I") (List.mem_cons_of_mem _ mw_466)
  have inX4 : ∀ w ∈ u_ws RX4 TX4 7, w ∈ wtX5_told := fun w h => List.mem_cons_of_mem _ (inlX4 w h)
  have q6 := hts (.fieldLink RX5 59 "Patiencery" "moneyOfOlderDeals" "I") (List.mem_cons_of_mem _ mw_34)
  have q7 := hts (.fieldLink RX5 214 "Patiencery$Table" "hidden" "I") (List.mem_cons_of_mem _ mw_467)
  unfold F_X5_told at hF
  refine lv_iload_n hx hb dX5_told_0 rfl (lv_at hl 1 rfl) ?_
  refine lv_iconst (v := (nI 0)) hx hb dX5_told_1 (by decide) ?_
  refine lv_bipush (v := (nI 7)) hx hb dX5_told_2 (by decide) ?_
  replace hF := cal1_e hF
  obtain ⟨x1, hc2, hF⟩ := hF
  refine kS_i (As := [.int v1, .int (nI 0), .int (nI 7)]) (rest := []) (wr := [(h_0, oX5 g_0_nextRules h_0_rules h_0_now g_0_past g_0_searcher g_0_dealt g_0_tried P_0), (h_0_now, oX4 h_0_rules h_0_now_lies h_0_now_tops h_0_now_list T_0_now), (h_0_now_lies, eI cI 16 (T_0_now 1)), (h_0_now_tops, eI cI 10 (T_0_now 2)), (h_0_now_list, eI cI 160 (T_0_now 3)), (h_0_rules, oX1 r_0_rules)]) (w2 := [(h_0, oX5 g_0_nextRules h_0_rules h_0_now g_0_past g_0_searcher g_0_dealt g_0_tried P_0), (h_0_now, oX4 h_0_rules h_0_now_lies h_0_now_tops h_0_now_list T_0_now), (h_0_now_lies, eI cI 16 (T_0_now 1)), (h_0_now_tops, eI cI 10 (T_0_now 2)), (h_0_now_list, eI cI 160 (T_0_now 3)), (h_0_rules, oX1 r_0_rules)]) hCF hK (c_X5_isWithin l D cI cJ v1 (nI 0) (nI 7) x1 hc2) (va_cwS 3 hts (TBL_S mw_174 mw_175 mw_2 mw_176) rfl rfl rfl pmX5_isWithin.2 ⟨Nat.le_of_ble_eq_true rfl, Nat.le_of_ble_eq_true rfl⟩) hS hA [] [0, 1, 2, 3, 4, 5] rfl rfl rfl rfl (by decide) rfl hl.1 rfl (Nat.le_of_ble_eq_true rfl) ⟨Nat.zero_le _, Nat.zero_le _⟩ dX5_told_4 rfl (fun H locs hS => ?_)
  refine lv_if_ne (tgt := 20) hx hb dX5_told_7 (by decide) (fun c_3 => ?_) (fun c_3 => ?_)
  · replace hF := ifn hF c_3
    refine lv_iload_n hx hb dX5_told_20 rfl (lv_at hl 1 rfl) ?_
    by_cases c_4 : v1 = (nI 0)
    · replace hF := ifp hF c_4
      refine lv_tableIn (tgt := 64) hx hb dX5_told_21 (by rw [c_4]; decide) (by rw [c_4]; decide) (by rw [c_4]; rfl) (by decide) ?_
      refine lv_aload_n hx hb dX5_told_64 rfl (lv_at hl 0 rfl) ?_
      refine r_get hx hb hts inX5 hown hK hS 0 2 rfl rfl (by decide) q0 rfl dX5_told_65 ?_
      replace hF := cal1_e hF
      obtain ⟨x5, hc6, hF⟩ := hF
      refine kV_i (As := []) (rest := []) (wr := [(h_0, oX5 g_0_nextRules h_0_rules h_0_now g_0_past g_0_searcher g_0_dealt g_0_tried P_0)]) (w2 := [(h_0, oX5 g_0_nextRules h_0_rules h_0_now g_0_past g_0_searcher g_0_dealt g_0_tried P_0), (h_0_now, oX4 h_0_rules h_0_now_lies h_0_now_tops h_0_now_list T_0_now), (h_0_now_lies, eI cI 16 (T_0_now 1)), (h_0_now_tops, eI cI 10 (T_0_now 2)), (h_0_now_list, eI cI 160 (T_0_now 3)), (h_0_rules, oX1 r_0_rules)]) hCF hK (c_X4_cardsUp l D cI cJ h_0_now h_0_now_lies h_0_now_tops h_0_now_list h_0_rules T_0_now r_0_rules x5 hc6) (cwV 0 hts (TBL_V mw_209 mw_210 mw_211 mw_17 mw_212) rfl rfl rfl pmX4_cardsUp ⟨Nat.le_of_ble_eq_true rfl, Nat.le_of_ble_eq_true rfl⟩) hS hA [1, 2, 3, 4, 5] [0] rfl rfl rfl rfl (by decide) rfl rfl rfl hl.1 rfl (Nat.le_of_ble_eq_true rfl) ⟨Nat.zero_le _, Nat.zero_le _⟩ dX5_told_68 rfl (fun H locs hS => ?_)
      have e9_0 := Option.some.inj hF
      obtain ⟨f9_0, e9_1⟩ := Prod.mk.inj e9_0
      subst f9_0
      subst e9_1
      exact kret _ _ _ _ rfl hS dX5_told_71
    replace hF := ifn hF c_4
    by_cases c_7 : v1 = (nI 1)
    · replace hF := ifp hF c_7
      refine lv_tableIn (tgt := 72) hx hb dX5_told_21 (by rw [c_7]; decide) (by rw [c_7]; decide) (by rw [c_7]; rfl) (by decide) ?_
      refine lv_aload_n hx hb dX5_told_72 rfl (lv_at hl 0 rfl) ?_
      refine r_get hx hb hts inX5 hown hK hS 0 7 rfl rfl (by decide) q2 rfl dX5_told_73 ?_
      have e9_0 := Option.some.inj hF
      obtain ⟨f9_0, e9_1⟩ := Prod.mk.inj e9_0
      subst f9_0
      subst e9_1
      exact kret _ _ _ _ rfl hS dX5_told_76
    replace hF := ifn hF c_7
    by_cases c_8 : v1 = (nI 2)
    · replace hF := ifp hF c_8
      refine lv_tableIn (tgt := 77) hx hb dX5_told_21 (by rw [c_8]; decide) (by rw [c_8]; decide) (by rw [c_8]; rfl) (by decide) ?_
      refine lv_aload_n hx hb dX5_told_77 rfl (lv_at hl 0 rfl) ?_
      refine r_get hx hb hts inX5 hown hK hS 0 8 rfl rfl (by decide) q3 rfl dX5_told_78 ?_
      have e9_0 := Option.some.inj hF
      obtain ⟨f9_0, e9_1⟩ := Prod.mk.inj e9_0
      subst f9_0
      subst e9_1
      exact kret _ _ _ _ rfl hS dX5_told_81
    replace hF := ifn hF c_8
    by_cases c_9 : v1 = (nI 3)
    · replace hF := ifp hF c_9
      refine lv_tableIn (tgt := 82) hx hb dX5_told_21 (by rw [c_9]; decide) (by rw [c_9]; decide) (by rw [c_9]; rfl) (by decide) ?_
      refine lv_aload_n hx hb dX5_told_82 rfl (lv_at hl 0 rfl) ?_
      refine r_get hx hb hts inX5 hown hK hS 0 2 rfl rfl (by decide) q0 rfl dX5_told_83 ?_
      refine r_get hx hb hts inX4 hown hK hS 1 6 rfl rfl (by decide) q4 rfl dX5_told_86 ?_
      have e9_0 := Option.some.inj hF
      obtain ⟨f9_0, e9_1⟩ := Prod.mk.inj e9_0
      subst f9_0
      subst e9_1
      exact kret _ _ _ _ rfl hS dX5_told_89
    replace hF := ifn hF c_9
    by_cases c_10 : v1 = (nI 4)
    · replace hF := ifp hF c_10
      refine lv_tableIn (tgt := 90) hx hb dX5_told_21 (by rw [c_10]; decide) (by rw [c_10]; decide) (by rw [c_10]; rfl) (by decide) ?_
      refine lv_aload_n hx hb dX5_told_90 rfl (lv_at hl 0 rfl) ?_
      replace hF := cal1_e hF
      obtain ⟨x11, hc12, hF⟩ := hF
      refine kV_i (As := []) (rest := []) (wr := []) (w2 := [(h_0, oX5 g_0_nextRules h_0_rules h_0_now g_0_past g_0_searcher g_0_dealt g_0_tried P_0), (h_0_now, oX4 h_0_rules h_0_now_lies h_0_now_tops h_0_now_list T_0_now), (h_0_now_lies, eI cI 16 (T_0_now 1)), (h_0_now_tops, eI cI 10 (T_0_now 2)), (h_0_now_list, eI cI 160 (T_0_now 3)), (h_0_rules, oX1 r_0_rules)]) hCF hK (c_X5_moneyOfDeal l D cI cJ h_0 h_0_now h_0_now_lies h_0_now_tops h_0_now_list h_0_rules g_0_nextRules g_0_past g_0_searcher g_0_dealt g_0_tried P_0 T_0_now r_0_rules x11 hc12) (cwV 0 hts (TBL_V mw_205 mw_206 mw_207 mw_2 mw_208) rfl rfl rfl pmX5_moneyOfDeal ⟨Nat.le_of_ble_eq_true rfl, Nat.le_of_ble_eq_true rfl⟩) hS hA [0, 1, 2, 3, 4, 5] [] rfl rfl rfl rfl (by decide) rfl rfl rfl hl.1 rfl (Nat.le_of_ble_eq_true rfl) ⟨Nat.zero_le _, Nat.zero_le _⟩ dX5_told_91 rfl (fun H locs hS => ?_)
      have e9_0 := Option.some.inj hF
      obtain ⟨f9_0, e9_1⟩ := Prod.mk.inj e9_0
      subst f9_0
      subst e9_1
      exact kret _ _ _ _ rfl hS dX5_told_94
    replace hF := ifn hF c_10
    by_cases c_13 : v1 = (nI 5)
    · replace hF := ifp hF c_13
      refine lv_tableIn (tgt := 95) hx hb dX5_told_21 (by rw [c_13]; decide) (by rw [c_13]; decide) (by rw [c_13]; rfl) (by decide) ?_
      refine lv_aload_n hx hb dX5_told_95 rfl (lv_at hl 0 rfl) ?_
      refine r_get hx hb hts inX5 hown hK hS 0 9 rfl rfl (by decide) q6 rfl dX5_told_96 ?_
      refine lv_aload_n hx hb dX5_told_99 rfl (lv_at hl 0 rfl) ?_
      replace hF := cal1_e hF
      obtain ⟨x14, hc15, hF⟩ := hF
      refine kV_i (As := []) (rest := [.int (P_0 9)]) (wr := []) (w2 := [(h_0, oX5 g_0_nextRules h_0_rules h_0_now g_0_past g_0_searcher g_0_dealt g_0_tried P_0), (h_0_now, oX4 h_0_rules h_0_now_lies h_0_now_tops h_0_now_list T_0_now), (h_0_now_lies, eI cI 16 (T_0_now 1)), (h_0_now_tops, eI cI 10 (T_0_now 2)), (h_0_now_list, eI cI 160 (T_0_now 3)), (h_0_rules, oX1 r_0_rules)]) hCF hK (c_X5_moneyOfDeal l D cI cJ h_0 h_0_now h_0_now_lies h_0_now_tops h_0_now_list h_0_rules g_0_nextRules g_0_past g_0_searcher g_0_dealt g_0_tried P_0 T_0_now r_0_rules x14 hc15) (cwV 0 hts (TBL_V mw_205 mw_206 mw_207 mw_2 mw_208) rfl rfl rfl pmX5_moneyOfDeal ⟨Nat.le_of_ble_eq_true rfl, Nat.le_of_ble_eq_true rfl⟩) hS hA [0, 1, 2, 3, 4, 5] [] rfl rfl rfl rfl (by decide) rfl rfl rfl hl.1 rfl (Nat.le_of_ble_eq_true rfl) ⟨Nat.zero_le _, Nat.zero_le _⟩ dX5_told_100 rfl (fun H locs hS => ?_)
      refine lv_iadd hx hb dX5_told_103 ?_
      have e9_0 := Option.some.inj hF
      obtain ⟨f9_0, e9_1⟩ := Prod.mk.inj e9_0
      subst f9_0
      subst e9_1
      exact kret _ _ _ _ rfl hS dX5_told_104
    replace hF := ifn hF c_13
    by_cases c_16 : v1 = (nI 6)
    · replace hF := ifp hF c_16
      refine lv_tableIn (tgt := 105) hx hb dX5_told_21 (by rw [c_16]; decide) (by rw [c_16]; decide) (by rw [c_16]; rfl) (by decide) ?_
      refine lv_aload_n hx hb dX5_told_105 rfl (lv_at hl 0 rfl) ?_
      refine r_get hx hb hts inX5 hown hK hS 0 2 rfl rfl (by decide) q0 rfl dX5_told_106 ?_
      replace hF := cal1_e hF
      obtain ⟨x17, hc18, hF⟩ := hF
      refine kV_i (As := []) (rest := []) (wr := [(h_0, oX5 g_0_nextRules h_0_rules h_0_now g_0_past g_0_searcher g_0_dealt g_0_tried P_0)]) (w2 := [(h_0, oX5 g_0_nextRules h_0_rules h_0_now g_0_past g_0_searcher g_0_dealt g_0_tried P_0), (h_0_now, oX4 h_0_rules h_0_now_lies h_0_now_tops h_0_now_list T_0_now), (h_0_now_lies, eI cI 16 (T_0_now 1)), (h_0_now_tops, eI cI 10 (T_0_now 2)), (h_0_now_list, eI cI 160 (T_0_now 3)), (h_0_rules, oX1 r_0_rules)]) hCF hK (c_X4_isWon l D cI cJ h_0_now h_0_now_lies h_0_now_tops h_0_now_list h_0_rules T_0_now r_0_rules x17 hc18) (cwV 0 hts (TBL_V mw_468 mw_435 mw_436 mw_17 mw_437) rfl rfl rfl pmX4_isWon ⟨Nat.le_of_ble_eq_true rfl, Nat.le_of_ble_eq_true rfl⟩) hS hA [1, 2, 3, 4, 5] [0] rfl rfl rfl rfl (by decide) rfl rfl rfl hl.1 rfl (Nat.le_of_ble_eq_true rfl) ⟨Nat.zero_le _, Nat.zero_le _⟩ dX5_told_109 rfl (fun H locs hS => ?_)
      refine lv_if_eq (tgt := 119) hx hb dX5_told_112 (by decide) (fun c_19 => ?_) (fun c_19 => ?_)
      · replace hF := ifp hF c_19
        refine lv_iconst (v := (nI 0)) hx hb dX5_told_119 (by decide) ?_
        have e9_0 := Option.some.inj hF
        obtain ⟨f9_0, e9_1⟩ := Prod.mk.inj e9_0
        subst f9_0
        subst e9_1
        exact kret _ _ _ _ rfl hS dX5_told_120
      · replace hF := ifn hF c_19
        refine lv_iconst (v := (nI 1)) hx hb dX5_told_115 (by decide) ?_
        refine lv_goto (tgt := 120) hx hb dX5_told_116 (by decide) ?_
        have e9_0 := Option.some.inj hF
        obtain ⟨f9_0, e9_1⟩ := Prod.mk.inj e9_0
        subst f9_0
        subst e9_1
        exact kret _ _ _ _ rfl hS dX5_told_120
    replace hF := ifn hF c_16
    refine lv_tableOut (tgt := 121) hx hb dX5_told_21 (by have nc_4 := toInt_ne c_4 (k := 0) rfl; have nc_7 := toInt_ne c_7 (k := 1) rfl; have nc_8 := toInt_ne c_8 (k := 2) rfl; have nc_9 := toInt_ne c_9 (k := 3) rfl; have nc_10 := toInt_ne c_10 (k := 4) rfl; have nc_13 := toInt_ne c_13 (k := 5) rfl; have nc_16 := toInt_ne c_16 (k := 6) rfl; omega) (by decide) ?_
    refine lv_aload_n hx hb dX5_told_121 rfl (lv_at hl 0 rfl) ?_
    refine r_get hx hb hts inX5 hown hK hS 0 2 rfl rfl (by decide) q0 rfl dX5_told_122 ?_
    refine r_get hx hb hts inX4 hown hK hS 1 5 rfl rfl (by decide) q7 rfl dX5_told_125 ?_
    replace hF := cal1_e hF
    obtain ⟨x20, hc21, hF⟩ := hF
    refine kS_i (As := [.int (T_0_now 0 5)]) (rest := []) (wr := [(h_0, oX5 g_0_nextRules h_0_rules h_0_now g_0_past g_0_searcher g_0_dealt g_0_tried P_0), (h_0_now, oX4 h_0_rules h_0_now_lies h_0_now_tops h_0_now_list T_0_now), (h_0_now_lies, eI cI 16 (T_0_now 1)), (h_0_now_tops, eI cI 10 (T_0_now 2)), (h_0_now_list, eI cI 160 (T_0_now 3)), (h_0_rules, oX1 r_0_rules)]) (w2 := [(h_0, oX5 g_0_nextRules h_0_rules h_0_now g_0_past g_0_searcher g_0_dealt g_0_tried P_0), (h_0_now, oX4 h_0_rules h_0_now_lies h_0_now_tops h_0_now_list T_0_now), (h_0_now_lies, eI cI 16 (T_0_now 1)), (h_0_now_tops, eI cI 10 (T_0_now 2)), (h_0_now_list, eI cI 160 (T_0_now 3)), (h_0_rules, oX1 r_0_rules)]) hCF hK (c_J6_bitCount_0f7a4 l D cI cJ (T_0_now 0 5) x20 hc21) (va_cwS 1 hts (TBL_S mw_469 mw_470 mw_471 mw_472) rfl rfl rfl pmJ6_bitCount_0f7a4.2 ⟨Nat.le_of_ble_eq_true rfl, Nat.le_of_ble_eq_true rfl⟩) hS hA [] [0, 1, 2, 3, 4, 5] rfl rfl rfl rfl (by decide) rfl hl.1 rfl (Nat.le_of_ble_eq_true rfl) ⟨Nat.zero_le _, Nat.zero_le _⟩ dX5_told_128 rfl (fun H locs hS => ?_)
    have e9_0 := Option.some.inj hF
    obtain ⟨f9_0, e9_1⟩ := Prod.mk.inj e9_0
    subst f9_0
    subst e9_1
    exact kret _ _ _ _ rfl hS dX5_told_131
  · replace hF := ifp hF c_3
    have e9_0 := Option.some.inj hF
    obtain ⟨f9_0, e9_1⟩ := Prod.mk.inj e9_0
    subst f9_0
    subst e9_1
    exact kthr 1 205 _ _ _ _ _ rfl (by decide) (List.mem_of_getElem? (i := 14) rfl) hS hl.1 dX5_told_10 dX5_told_13 dX5_told_14 dX5_told_16 dX5_told_19
set_option maxHeartbeats 4000000 in
set_option maxRecDepth 100000 in
theorem c_X5_search (l : Launch) (D : va_G) (cI cJ : ClassId) (hfl : l.stackTraces = false) (h_0 h_0_searcher h_0_searcher_steps h_0_searcher_newest h_0_searcher_older h_0_searcher_table h_0_searcher_table_lies h_0_searcher_table_tops h_0_searcher_table_list h_0_now h_0_now_lies h_0_now_tops h_0_now_list h_0_searcher_origin h_0_searcher_origin_lies h_0_searcher_origin_tops h_0_searcher_origin_list h_0_searcher_shelf h_0_searcher_shelf_lows h_0_searcher_shelf_highs h_0_searcher_shelf_places h_0_rules g_0_nextRules g_0_past g_0_dealt g_0_tried g_0_searcher_table_rules g_0_searcher_origin_rules : Nat) (P_0 : Nat → Int32) (T_0_now : Nat → Nat → Int32) (r_0_rules : Nat → Int32) (Q_0_searcher : Nat → Nat → Int32) (T_0_searcher_table : Nat → Nat → Int32) (T_0_searcher_origin : Nat → Nat → Int32) (S_0_searcher_shelf : Nat → Nat → Int64) (v1 : Int32) (th : Nat) (rv : Int32) (r_Q_0_searcher : Nat → Nat → Int32) (r_T_0_searcher_table : Nat → Nat → Int32) (r_T_0_searcher_origin : Nat → Nat → Int32) (r_S_0_searcher_shelf : Nat → Nat → Int64) (hF : F_X5_search P_0 T_0_now r_0_rules Q_0_searcher T_0_searcher_table T_0_searcher_origin S_0_searcher_shelf v1 = some (th, rv, r_Q_0_searcher, r_T_0_searcher_table, r_T_0_searcher_origin, r_S_0_searcher_shelf)) : CtXI l D [(cI, .int), (cJ, .long)] yX5_search wtX5_search ({ frames := 6, cells := 1, slots := 6, locals := 140 } : Room) [.ref h_0, .int v1] [(h_0, oX5 g_0_nextRules h_0_rules h_0_now g_0_past h_0_searcher g_0_dealt g_0_tried P_0), (h_0_searcher, oX2 h_0_searcher_table h_0_searcher_origin h_0_searcher_shelf h_0_searcher_steps h_0_searcher_newest h_0_searcher_older Q_0_searcher), (h_0_searcher_steps, eI cI 401 (Q_0_searcher 1)), (h_0_searcher_newest, eI cI 256 (Q_0_searcher 2)), (h_0_searcher_older, eI cI 401 (Q_0_searcher 3)), (h_0_searcher_table, oX4 g_0_searcher_table_rules h_0_searcher_table_lies h_0_searcher_table_tops h_0_searcher_table_list T_0_searcher_table), (h_0_searcher_table_lies, eI cI 16 (T_0_searcher_table 1)), (h_0_searcher_table_tops, eI cI 10 (T_0_searcher_table 2)), (h_0_searcher_table_list, eI cI 160 (T_0_searcher_table 3)), (h_0_now, oX4 h_0_rules h_0_now_lies h_0_now_tops h_0_now_list T_0_now), (h_0_now_lies, eI cI 16 (T_0_now 1)), (h_0_now_tops, eI cI 10 (T_0_now 2)), (h_0_now_list, eI cI 160 (T_0_now 3)), (h_0_searcher_origin, oX4 g_0_searcher_origin_rules h_0_searcher_origin_lies h_0_searcher_origin_tops h_0_searcher_origin_list T_0_searcher_origin), (h_0_searcher_origin_lies, eI cI 16 (T_0_searcher_origin 1)), (h_0_searcher_origin_tops, eI cI 10 (T_0_searcher_origin 2)), (h_0_searcher_origin_list, eI cI 160 (T_0_searcher_origin 3)), (h_0_searcher_shelf, oX3 h_0_searcher_shelf_lows h_0_searcher_shelf_highs h_0_searcher_shelf_places), (h_0_searcher_shelf_lows, eJ cJ 401 (S_0_searcher_shelf 0)), (h_0_searcher_shelf_highs, eJ cJ 401 (S_0_searcher_shelf 1)), (h_0_searcher_shelf_places, eJ cJ 401 (S_0_searcher_shelf 2)), (h_0_rules, oX1 r_0_rules)] [(h_0, oX5 g_0_nextRules h_0_rules h_0_now g_0_past h_0_searcher g_0_dealt g_0_tried P_0), (h_0_searcher, oX2 h_0_searcher_table h_0_searcher_origin h_0_searcher_shelf h_0_searcher_steps h_0_searcher_newest h_0_searcher_older r_Q_0_searcher), (h_0_searcher_steps, eI cI 401 (r_Q_0_searcher 1)), (h_0_searcher_newest, eI cI 256 (r_Q_0_searcher 2)), (h_0_searcher_older, eI cI 401 (r_Q_0_searcher 3)), (h_0_searcher_table, oX4 h_0_rules h_0_searcher_table_lies h_0_searcher_table_tops h_0_searcher_table_list r_T_0_searcher_table), (h_0_searcher_table_lies, eI cI 16 (r_T_0_searcher_table 1)), (h_0_searcher_table_tops, eI cI 10 (r_T_0_searcher_table 2)), (h_0_searcher_table_list, eI cI 160 (r_T_0_searcher_table 3)), (h_0_now, oX4 h_0_rules h_0_now_lies h_0_now_tops h_0_now_list T_0_now), (h_0_now_lies, eI cI 16 (T_0_now 1)), (h_0_now_tops, eI cI 10 (T_0_now 2)), (h_0_now_list, eI cI 160 (T_0_now 3)), (h_0_searcher_origin, oX4 h_0_rules h_0_searcher_origin_lies h_0_searcher_origin_tops h_0_searcher_origin_list r_T_0_searcher_origin), (h_0_searcher_origin_lies, eI cI 16 (r_T_0_searcher_origin 1)), (h_0_searcher_origin_tops, eI cI 10 (r_T_0_searcher_origin 2)), (h_0_searcher_origin_list, eI cI 160 (r_T_0_searcher_origin 3)), (h_0_searcher_shelf, oX3 h_0_searcher_shelf_lows h_0_searcher_shelf_highs h_0_searcher_shelf_places), (h_0_searcher_shelf_lows, eJ cJ 401 (r_S_0_searcher_shelf 0)), (h_0_searcher_shelf_highs, eJ cJ 401 (r_S_0_searcher_shelf 1)), (h_0_searcher_shelf_places, eJ cJ 401 (r_S_0_searcher_shelf 2)), (h_0_rules, oX1 r_0_rules)] [(h_0, oX5 g_0_nextRules h_0_rules h_0_now g_0_past h_0_searcher g_0_dealt g_0_tried P_0), (h_0_searcher, oX2 h_0_searcher_table h_0_searcher_origin h_0_searcher_shelf h_0_searcher_steps h_0_searcher_newest h_0_searcher_older r_Q_0_searcher), (h_0_searcher_steps, eI cI 401 (r_Q_0_searcher 1)), (h_0_searcher_newest, eI cI 256 (r_Q_0_searcher 2)), (h_0_searcher_older, eI cI 401 (r_Q_0_searcher 3)), (h_0_searcher_table, oX4 g_0_searcher_table_rules h_0_searcher_table_lies h_0_searcher_table_tops h_0_searcher_table_list r_T_0_searcher_table), (h_0_searcher_table_lies, eI cI 16 (r_T_0_searcher_table 1)), (h_0_searcher_table_tops, eI cI 10 (r_T_0_searcher_table 2)), (h_0_searcher_table_list, eI cI 160 (r_T_0_searcher_table 3)), (h_0_now, oX4 h_0_rules h_0_now_lies h_0_now_tops h_0_now_list T_0_now), (h_0_now_lies, eI cI 16 (T_0_now 1)), (h_0_now_tops, eI cI 10 (T_0_now 2)), (h_0_now_list, eI cI 160 (T_0_now 3)), (h_0_searcher_origin, oX4 g_0_searcher_origin_rules h_0_searcher_origin_lies h_0_searcher_origin_tops h_0_searcher_origin_list r_T_0_searcher_origin), (h_0_searcher_origin_lies, eI cI 16 (r_T_0_searcher_origin 1)), (h_0_searcher_origin_tops, eI cI 10 (r_T_0_searcher_origin 2)), (h_0_searcher_origin_list, eI cI 160 (r_T_0_searcher_origin 3)), (h_0_searcher_shelf, oX3 h_0_searcher_shelf_lows h_0_searcher_shelf_highs h_0_searcher_shelf_places), (h_0_searcher_shelf_lows, eJ cJ 401 (r_S_0_searcher_shelf 0)), (h_0_searcher_shelf_highs, eJ cJ 401 (r_S_0_searcher_shelf 1)), (h_0_searcher_shelf_places, eJ cJ 401 (r_S_0_searcher_shelf 2)), (h_0_rules, oX1 r_0_rules)] th rv := by
  refine CtXI.of (cc := cX5_search) (maxL := 2) hfl rfl (by decide) rfl (Nat.le_of_ble_eq_true rfl) ⟨rfl, rfl, Nat.le_of_ble_eq_true rfl, Nat.le_of_ble_eq_true rfl⟩ ?_
  intro p e s m args below meth c A H0 Q ls X hS hl kret kthr
  have hCF := X.1
  obtain ⟨⟨hx, hb, hml, hown, hts⟩, hK, hA⟩ := X
  have hl : lv_has ls 2 [(0, .ref h_0), (1, .int v1)] := hl
  have q0 := hts (.fieldLink RX5 38 "Patiencery" "searcher" "LPatiencery$Searcher;") (List.mem_cons_of_mem _ mw_26)
  have inX5 : ∀ w ∈ u_ws RX5 TX5 10, w ∈ wtX5_search := fun w h => List.mem_cons_of_mem _ (inlX5 w h)
  have q2 := hts (.fieldLink RX5 224 "Patiencery$Searcher" "table" "LPatiencery$Table;") (List.mem_cons_of_mem _ mw_407)
  have inX2 : ∀ w ∈ u_ws RX2 TX2 7, w ∈ wtX5_search := fun w h => List.mem_cons_of_mem _ (inlX2 w h)
  have q4 := hts (.fieldLink RX5 22 "Patiencery" "now" "LPatiencery$Table;") (List.mem_cons_of_mem _ mw_18)
  unfold F_X5_search at hF
  refine lv_iload_n hx hb dX5_search_0 rfl (lv_at hl 1 rfl) ?_
  refine lv_iconst (v := (nI 1)) hx hb dX5_search_1 (by decide) ?_
  refine lv_sipush (v := (nI 400)) hx hb dX5_search_2 (by decide) ?_
  replace hF := cal1_e hF
  obtain ⟨x1, hc2, hF⟩ := hF
  refine kS_i (As := [.int v1, .int (nI 1), .int (nI 400)]) (rest := []) (wr := [(h_0, oX5 g_0_nextRules h_0_rules h_0_now g_0_past h_0_searcher g_0_dealt g_0_tried P_0), (h_0_searcher, oX2 h_0_searcher_table h_0_searcher_origin h_0_searcher_shelf h_0_searcher_steps h_0_searcher_newest h_0_searcher_older Q_0_searcher), (h_0_searcher_steps, eI cI 401 (Q_0_searcher 1)), (h_0_searcher_newest, eI cI 256 (Q_0_searcher 2)), (h_0_searcher_older, eI cI 401 (Q_0_searcher 3)), (h_0_searcher_table, oX4 g_0_searcher_table_rules h_0_searcher_table_lies h_0_searcher_table_tops h_0_searcher_table_list T_0_searcher_table), (h_0_searcher_table_lies, eI cI 16 (T_0_searcher_table 1)), (h_0_searcher_table_tops, eI cI 10 (T_0_searcher_table 2)), (h_0_searcher_table_list, eI cI 160 (T_0_searcher_table 3)), (h_0_now, oX4 h_0_rules h_0_now_lies h_0_now_tops h_0_now_list T_0_now), (h_0_now_lies, eI cI 16 (T_0_now 1)), (h_0_now_tops, eI cI 10 (T_0_now 2)), (h_0_now_list, eI cI 160 (T_0_now 3)), (h_0_searcher_origin, oX4 g_0_searcher_origin_rules h_0_searcher_origin_lies h_0_searcher_origin_tops h_0_searcher_origin_list T_0_searcher_origin), (h_0_searcher_origin_lies, eI cI 16 (T_0_searcher_origin 1)), (h_0_searcher_origin_tops, eI cI 10 (T_0_searcher_origin 2)), (h_0_searcher_origin_list, eI cI 160 (T_0_searcher_origin 3)), (h_0_searcher_shelf, oX3 h_0_searcher_shelf_lows h_0_searcher_shelf_highs h_0_searcher_shelf_places), (h_0_searcher_shelf_lows, eJ cJ 401 (S_0_searcher_shelf 0)), (h_0_searcher_shelf_highs, eJ cJ 401 (S_0_searcher_shelf 1)), (h_0_searcher_shelf_places, eJ cJ 401 (S_0_searcher_shelf 2)), (h_0_rules, oX1 r_0_rules)]) (w2 := [(h_0, oX5 g_0_nextRules h_0_rules h_0_now g_0_past h_0_searcher g_0_dealt g_0_tried P_0), (h_0_searcher, oX2 h_0_searcher_table h_0_searcher_origin h_0_searcher_shelf h_0_searcher_steps h_0_searcher_newest h_0_searcher_older Q_0_searcher), (h_0_searcher_steps, eI cI 401 (Q_0_searcher 1)), (h_0_searcher_newest, eI cI 256 (Q_0_searcher 2)), (h_0_searcher_older, eI cI 401 (Q_0_searcher 3)), (h_0_searcher_table, oX4 g_0_searcher_table_rules h_0_searcher_table_lies h_0_searcher_table_tops h_0_searcher_table_list T_0_searcher_table), (h_0_searcher_table_lies, eI cI 16 (T_0_searcher_table 1)), (h_0_searcher_table_tops, eI cI 10 (T_0_searcher_table 2)), (h_0_searcher_table_list, eI cI 160 (T_0_searcher_table 3)), (h_0_now, oX4 h_0_rules h_0_now_lies h_0_now_tops h_0_now_list T_0_now), (h_0_now_lies, eI cI 16 (T_0_now 1)), (h_0_now_tops, eI cI 10 (T_0_now 2)), (h_0_now_list, eI cI 160 (T_0_now 3)), (h_0_searcher_origin, oX4 g_0_searcher_origin_rules h_0_searcher_origin_lies h_0_searcher_origin_tops h_0_searcher_origin_list T_0_searcher_origin), (h_0_searcher_origin_lies, eI cI 16 (T_0_searcher_origin 1)), (h_0_searcher_origin_tops, eI cI 10 (T_0_searcher_origin 2)), (h_0_searcher_origin_list, eI cI 160 (T_0_searcher_origin 3)), (h_0_searcher_shelf, oX3 h_0_searcher_shelf_lows h_0_searcher_shelf_highs h_0_searcher_shelf_places), (h_0_searcher_shelf_lows, eJ cJ 401 (S_0_searcher_shelf 0)), (h_0_searcher_shelf_highs, eJ cJ 401 (S_0_searcher_shelf 1)), (h_0_searcher_shelf_places, eJ cJ 401 (S_0_searcher_shelf 2)), (h_0_rules, oX1 r_0_rules)]) hCF hK (c_X5_isWithin l D cI cJ v1 (nI 1) (nI 400) x1 hc2) (va_cwS 3 hts (TBL_S mw_174 mw_175 mw_2 mw_176) rfl rfl rfl pmX5_isWithin.2 ⟨Nat.le_of_ble_eq_true rfl, Nat.le_of_ble_eq_true rfl⟩) hS hA [] [0, 1, 2, 3, 4, 5, 6, 7, 8, 9, 10, 11, 12, 13, 14, 15, 16, 17, 18, 19, 20, 21] rfl rfl rfl rfl (by decide) rfl hl.1 rfl (Nat.le_of_ble_eq_true rfl) ⟨Nat.zero_le _, Nat.zero_le _⟩ dX5_search_5 rfl (fun H locs hS => ?_)
  refine lv_if_ne (tgt := 21) hx hb dX5_search_8 (by decide) (fun c_3 => ?_) (fun c_3 => ?_)
  · replace hF := ifn hF c_3
    refine lv_aload_n hx hb dX5_search_21 rfl (lv_at hl 0 rfl) ?_
    refine r_get hx hb hts inX5 hown hK hS 0 4 rfl rfl (by decide) q0 rfl dX5_search_22 ?_
    refine r_get hx hb hts inX2 hown hK hS 1 0 rfl rfl (by decide) q2 rfl dX5_search_25 ?_
    refine lv_aload_n hx hb dX5_search_28 rfl (lv_at hl 0 rfl) ?_
    refine r_get hx hb hts inX5 hown hK hS 0 2 rfl rfl (by decide) q4 rfl dX5_search_29 ?_
    replace hF := cal1_e hF
    obtain ⟨T_0_searcher_tableu4, hc5, hF⟩ := hF
    refine kV_v (As := [.ref h_0_now]) (rest := []) (wr := [(h_0, oX5 g_0_nextRules h_0_rules h_0_now g_0_past h_0_searcher g_0_dealt g_0_tried P_0), (h_0_searcher, oX2 h_0_searcher_table h_0_searcher_origin h_0_searcher_shelf h_0_searcher_steps h_0_searcher_newest h_0_searcher_older Q_0_searcher), (h_0_searcher_steps, eI cI 401 (Q_0_searcher 1)), (h_0_searcher_newest, eI cI 256 (Q_0_searcher 2)), (h_0_searcher_older, eI cI 401 (Q_0_searcher 3)), (h_0_searcher_origin, oX4 g_0_searcher_origin_rules h_0_searcher_origin_lies h_0_searcher_origin_tops h_0_searcher_origin_list T_0_searcher_origin), (h_0_searcher_origin_lies, eI cI 16 (T_0_searcher_origin 1)), (h_0_searcher_origin_tops, eI cI 10 (T_0_searcher_origin 2)), (h_0_searcher_origin_list, eI cI 160 (T_0_searcher_origin 3)), (h_0_searcher_shelf, oX3 h_0_searcher_shelf_lows h_0_searcher_shelf_highs h_0_searcher_shelf_places), (h_0_searcher_shelf_lows, eJ cJ 401 (S_0_searcher_shelf 0)), (h_0_searcher_shelf_highs, eJ cJ 401 (S_0_searcher_shelf 1)), (h_0_searcher_shelf_places, eJ cJ 401 (S_0_searcher_shelf 2)), (h_0_rules, oX1 r_0_rules)]) (w2 := [(h_0, oX5 g_0_nextRules h_0_rules h_0_now g_0_past h_0_searcher g_0_dealt g_0_tried P_0), (h_0_searcher, oX2 h_0_searcher_table h_0_searcher_origin h_0_searcher_shelf h_0_searcher_steps h_0_searcher_newest h_0_searcher_older Q_0_searcher), (h_0_searcher_steps, eI cI 401 (Q_0_searcher 1)), (h_0_searcher_newest, eI cI 256 (Q_0_searcher 2)), (h_0_searcher_older, eI cI 401 (Q_0_searcher 3)), (h_0_searcher_origin, oX4 g_0_searcher_origin_rules h_0_searcher_origin_lies h_0_searcher_origin_tops h_0_searcher_origin_list T_0_searcher_origin), (h_0_searcher_origin_lies, eI cI 16 (T_0_searcher_origin 1)), (h_0_searcher_origin_tops, eI cI 10 (T_0_searcher_origin 2)), (h_0_searcher_origin_list, eI cI 160 (T_0_searcher_origin 3)), (h_0_searcher_shelf, oX3 h_0_searcher_shelf_lows h_0_searcher_shelf_highs h_0_searcher_shelf_places), (h_0_searcher_shelf_lows, eJ cJ 401 (S_0_searcher_shelf 0)), (h_0_searcher_shelf_highs, eJ cJ 401 (S_0_searcher_shelf 1)), (h_0_searcher_shelf_places, eJ cJ 401 (S_0_searcher_shelf 2)), (h_0_rules, oX1 r_0_rules), (h_0_searcher_table, oX4 h_0_rules h_0_searcher_table_lies h_0_searcher_table_tops h_0_searcher_table_list T_0_searcher_tableu4), (h_0_searcher_table_lies, eI cI 16 (T_0_searcher_tableu4 1)), (h_0_searcher_table_tops, eI cI 10 (T_0_searcher_tableu4 2)), (h_0_searcher_table_list, eI cI 160 (T_0_searcher_tableu4 3)), (h_0_now, oX4 h_0_rules h_0_now_lies h_0_now_tops h_0_now_list T_0_now), (h_0_now_lies, eI cI 16 (T_0_now 1)), (h_0_now_tops, eI cI 10 (T_0_now 2)), (h_0_now_list, eI cI 160 (T_0_now 3))]) hCF hK (c_X4_copyFrom l D cI cJ h_0_searcher_table h_0_searcher_table_lies h_0_searcher_table_tops h_0_searcher_table_list h_0_now h_0_now_lies h_0_now_tops h_0_now_list g_0_searcher_table_rules h_0_rules T_0_now T_0_searcher_table T_0_searcher_tableu4 hc5) (cwV 1 hts (TBL_V mw_408 mw_409 mw_410 mw_17 mw_411) rfl rfl rfl pmX4_copyFrom ⟨Nat.le_of_ble_eq_true rfl, Nat.le_of_ble_eq_true rfl⟩) hS hA [5, 6, 7, 8, 9, 10, 11, 12] [0, 1, 2, 3, 4, 13, 14, 15, 16, 17, 18, 19, 20, 21] rfl rfl rfl rfl (by decide) rfl rfl rfl hl.1 rfl (Nat.le_of_ble_eq_true rfl) ⟨Nat.zero_le _, Nat.zero_le _⟩ dX5_search_32 rfl (fun H locs hS => ?_)
    refine lv_aload_n hx hb dX5_search_35 rfl (lv_at hl 0 rfl) ?_
    refine r_get hx hb hts inX5 hown hK hS 0 4 rfl rfl (by decide) q0 rfl dX5_search_36 ?_
    refine lv_iload_n hx hb dX5_search_39 rfl (lv_at hl 1 rfl) ?_
    replace hF := cal5_e hF
    obtain ⟨x6, Q_0_searcheru7, T_0_searcher_originu8, T_0_searcher_tableu9, S_0_searcher_shelfu10, hc11, hF⟩ := hF
    refine kV_i (As := [.int v1]) (rest := []) (wr := [(h_0, oX5 g_0_nextRules h_0_rules h_0_now g_0_past h_0_searcher g_0_dealt g_0_tried P_0), (h_0_now, oX4 h_0_rules h_0_now_lies h_0_now_tops h_0_now_list T_0_now), (h_0_now_lies, eI cI 16 (T_0_now 1)), (h_0_now_tops, eI cI 10 (T_0_now 2)), (h_0_now_list, eI cI 160 (T_0_now 3))]) (w2 := [(h_0, oX5 g_0_nextRules h_0_rules h_0_now g_0_past h_0_searcher g_0_dealt g_0_tried P_0), (h_0_now, oX4 h_0_rules h_0_now_lies h_0_now_tops h_0_now_list T_0_now), (h_0_now_lies, eI cI 16 (T_0_now 1)), (h_0_now_tops, eI cI 10 (T_0_now 2)), (h_0_now_list, eI cI 160 (T_0_now 3)), (h_0_searcher, oX2 h_0_searcher_table h_0_searcher_origin h_0_searcher_shelf h_0_searcher_steps h_0_searcher_newest h_0_searcher_older Q_0_searcheru7), (h_0_searcher_steps, eI cI 401 (Q_0_searcheru7 1)), (h_0_searcher_newest, eI cI 256 (Q_0_searcheru7 2)), (h_0_searcher_older, eI cI 401 (Q_0_searcheru7 3)), (h_0_searcher_origin, oX4 h_0_rules h_0_searcher_origin_lies h_0_searcher_origin_tops h_0_searcher_origin_list T_0_searcher_originu8), (h_0_searcher_origin_lies, eI cI 16 (T_0_searcher_originu8 1)), (h_0_searcher_origin_tops, eI cI 10 (T_0_searcher_originu8 2)), (h_0_searcher_origin_list, eI cI 160 (T_0_searcher_originu8 3)), (h_0_searcher_table, oX4 h_0_rules h_0_searcher_table_lies h_0_searcher_table_tops h_0_searcher_table_list T_0_searcher_tableu9), (h_0_searcher_table_lies, eI cI 16 (T_0_searcher_tableu9 1)), (h_0_searcher_table_tops, eI cI 10 (T_0_searcher_tableu9 2)), (h_0_searcher_table_list, eI cI 160 (T_0_searcher_tableu9 3)), (h_0_searcher_shelf, oX3 h_0_searcher_shelf_lows h_0_searcher_shelf_highs h_0_searcher_shelf_places), (h_0_searcher_shelf_lows, eJ cJ 401 (S_0_searcher_shelfu10 0)), (h_0_searcher_shelf_highs, eJ cJ 401 (S_0_searcher_shelfu10 1)), (h_0_searcher_shelf_places, eJ cJ 401 (S_0_searcher_shelfu10 2)), (h_0_rules, oX1 r_0_rules)]) hCF hK (c_X2_run l D cI cJ h_0_searcher h_0_searcher_steps h_0_searcher_newest h_0_searcher_older h_0_searcher_origin h_0_searcher_origin_lies h_0_searcher_origin_tops h_0_searcher_origin_list h_0_searcher_table h_0_searcher_table_lies h_0_searcher_table_tops h_0_searcher_table_list h_0_searcher_shelf h_0_searcher_shelf_lows h_0_searcher_shelf_highs h_0_searcher_shelf_places h_0_rules g_0_searcher_origin_rules r_0_rules Q_0_searcher T_0_searcher_origin T_0_searcher_tableu4 S_0_searcher_shelf v1 x6 Q_0_searcheru7 T_0_searcher_originu8 T_0_searcher_tableu9 S_0_searcher_shelfu10 hc11) (cwV 1 hts (TBL_V mw_416 mw_417 mw_418 mw_25 mw_419) rfl rfl rfl pmX2_run ⟨Nat.le_of_ble_eq_true rfl, Nat.le_of_ble_eq_true rfl⟩) hS hA [1, 2, 3, 4, 5, 6, 7, 8, 14, 15, 16, 17, 9, 10, 11, 12, 13] [0, 18, 19, 20, 21] rfl rfl rfl rfl (by decide) rfl rfl rfl hl.1 rfl (Nat.le_of_ble_eq_true rfl) ⟨Nat.zero_le _, Nat.zero_le _⟩ dX5_search_40 rfl (fun H locs hS => ?_)
    have e9_0 := Option.some.inj hF
    obtain ⟨f9_0, e9_1⟩ := Prod.mk.inj e9_0
    obtain ⟨f9_1, e9_2⟩ := Prod.mk.inj e9_1
    obtain ⟨f9_2, e9_3⟩ := Prod.mk.inj e9_2
    obtain ⟨f9_3, e9_4⟩ := Prod.mk.inj e9_3
    obtain ⟨f9_4, e9_5⟩ := Prod.mk.inj e9_4
    subst f9_0
    subst f9_1
    subst f9_2
    subst f9_3
    subst f9_4
    subst e9_5
    exact kret _ _ _ _ rfl (hS.sub [0, 5, 6, 7, 8, 13, 14, 15, 16, 1, 2, 3, 4, 9, 10, 11, 12, 17, 18, 19, 20, 21] rfl rfl) dX5_search_43
  · replace hF := ifp hF c_3
    have e9_0 := Option.some.inj hF
    obtain ⟨f9_0, e9_1⟩ := Prod.mk.inj e9_0
    obtain ⟨f9_1, e9_2⟩ := Prod.mk.inj e9_1
    obtain ⟨f9_2, e9_3⟩ := Prod.mk.inj e9_2
    obtain ⟨f9_3, e9_4⟩ := Prod.mk.inj e9_3
    obtain ⟨f9_4, e9_5⟩ := Prod.mk.inj e9_4
    subst f9_0
    subst f9_1
    subst f9_2
    subst f9_3
    subst f9_4
    subst e9_5
    exact kthr 1 222 _ _ _ _ _ rfl (by decide) (List.mem_of_getElem? (i := 15) rfl) hS hl.1 dX5_search_11 dX5_search_14 dX5_search_15 dX5_search_17 dX5_search_20
set_option maxHeartbeats 4000000 in
set_option maxRecDepth 100000 in
theorem c_X5_known (l : Launch) (D : va_G) (cI cJ : ClassId) (hfl : l.stackTraces = false) (h_0 h_0_searcher h_0_searcher_steps h_0_searcher_newest h_0_searcher_older h_0_searcher_table h_0_searcher_table_lies h_0_searcher_table_tops h_0_searcher_table_list h_0_now h_0_now_lies h_0_now_tops h_0_now_list h_0_searcher_origin h_0_searcher_origin_lies h_0_searcher_origin_tops h_0_searcher_origin_list h_0_searcher_shelf h_0_searcher_shelf_lows h_0_searcher_shelf_highs h_0_searcher_shelf_places h_0_rules g_0_nextRules g_0_past g_0_dealt g_0_tried g_0_searcher_table_rules g_0_searcher_origin_rules : Nat) (P_0 : Nat → Int32) (T_0_now : Nat → Nat → Int32) (r_0_rules : Nat → Int32) (Q_0_searcher : Nat → Nat → Int32) (T_0_searcher_table : Nat → Nat → Int32) (T_0_searcher_origin : Nat → Nat → Int32) (S_0_searcher_shelf : Nat → Nat → Int64) (v1 : Int32) (th : Nat) (rv : Int32) (r_Q_0_searcher : Nat → Nat → Int32) (r_T_0_searcher_table : Nat → Nat → Int32) (r_T_0_searcher_origin : Nat → Nat → Int32) (r_S_0_searcher_shelf : Nat → Nat → Int64) (hF : F_X5_known P_0 T_0_now r_0_rules Q_0_searcher T_0_searcher_table T_0_searcher_origin S_0_searcher_shelf v1 = some (th, rv, r_Q_0_searcher, r_T_0_searcher_table, r_T_0_searcher_origin, r_S_0_searcher_shelf)) : CtXI l D [(cI, .int), (cJ, .long)] yX5_known wtX5_known ({ frames := 6, cells := 1, slots := 6, locals := 140 } : Room) [.ref h_0, .int v1] [(h_0, oX5 g_0_nextRules h_0_rules h_0_now g_0_past h_0_searcher g_0_dealt g_0_tried P_0), (h_0_searcher, oX2 h_0_searcher_table h_0_searcher_origin h_0_searcher_shelf h_0_searcher_steps h_0_searcher_newest h_0_searcher_older Q_0_searcher), (h_0_searcher_steps, eI cI 401 (Q_0_searcher 1)), (h_0_searcher_newest, eI cI 256 (Q_0_searcher 2)), (h_0_searcher_older, eI cI 401 (Q_0_searcher 3)), (h_0_searcher_table, oX4 g_0_searcher_table_rules h_0_searcher_table_lies h_0_searcher_table_tops h_0_searcher_table_list T_0_searcher_table), (h_0_searcher_table_lies, eI cI 16 (T_0_searcher_table 1)), (h_0_searcher_table_tops, eI cI 10 (T_0_searcher_table 2)), (h_0_searcher_table_list, eI cI 160 (T_0_searcher_table 3)), (h_0_now, oX4 h_0_rules h_0_now_lies h_0_now_tops h_0_now_list T_0_now), (h_0_now_lies, eI cI 16 (T_0_now 1)), (h_0_now_tops, eI cI 10 (T_0_now 2)), (h_0_now_list, eI cI 160 (T_0_now 3)), (h_0_searcher_origin, oX4 g_0_searcher_origin_rules h_0_searcher_origin_lies h_0_searcher_origin_tops h_0_searcher_origin_list T_0_searcher_origin), (h_0_searcher_origin_lies, eI cI 16 (T_0_searcher_origin 1)), (h_0_searcher_origin_tops, eI cI 10 (T_0_searcher_origin 2)), (h_0_searcher_origin_list, eI cI 160 (T_0_searcher_origin 3)), (h_0_searcher_shelf, oX3 h_0_searcher_shelf_lows h_0_searcher_shelf_highs h_0_searcher_shelf_places), (h_0_searcher_shelf_lows, eJ cJ 401 (S_0_searcher_shelf 0)), (h_0_searcher_shelf_highs, eJ cJ 401 (S_0_searcher_shelf 1)), (h_0_searcher_shelf_places, eJ cJ 401 (S_0_searcher_shelf 2)), (h_0_rules, oX1 r_0_rules)] [(h_0, oX5 g_0_nextRules h_0_rules h_0_now g_0_past h_0_searcher g_0_dealt g_0_tried P_0), (h_0_searcher, oX2 h_0_searcher_table h_0_searcher_origin h_0_searcher_shelf h_0_searcher_steps h_0_searcher_newest h_0_searcher_older r_Q_0_searcher), (h_0_searcher_steps, eI cI 401 (r_Q_0_searcher 1)), (h_0_searcher_newest, eI cI 256 (r_Q_0_searcher 2)), (h_0_searcher_older, eI cI 401 (r_Q_0_searcher 3)), (h_0_searcher_table, oX4 h_0_rules h_0_searcher_table_lies h_0_searcher_table_tops h_0_searcher_table_list r_T_0_searcher_table), (h_0_searcher_table_lies, eI cI 16 (r_T_0_searcher_table 1)), (h_0_searcher_table_tops, eI cI 10 (r_T_0_searcher_table 2)), (h_0_searcher_table_list, eI cI 160 (r_T_0_searcher_table 3)), (h_0_now, oX4 h_0_rules h_0_now_lies h_0_now_tops h_0_now_list T_0_now), (h_0_now_lies, eI cI 16 (T_0_now 1)), (h_0_now_tops, eI cI 10 (T_0_now 2)), (h_0_now_list, eI cI 160 (T_0_now 3)), (h_0_searcher_origin, oX4 h_0_rules h_0_searcher_origin_lies h_0_searcher_origin_tops h_0_searcher_origin_list r_T_0_searcher_origin), (h_0_searcher_origin_lies, eI cI 16 (r_T_0_searcher_origin 1)), (h_0_searcher_origin_tops, eI cI 10 (r_T_0_searcher_origin 2)), (h_0_searcher_origin_list, eI cI 160 (r_T_0_searcher_origin 3)), (h_0_searcher_shelf, oX3 h_0_searcher_shelf_lows h_0_searcher_shelf_highs h_0_searcher_shelf_places), (h_0_searcher_shelf_lows, eJ cJ 401 (r_S_0_searcher_shelf 0)), (h_0_searcher_shelf_highs, eJ cJ 401 (r_S_0_searcher_shelf 1)), (h_0_searcher_shelf_places, eJ cJ 401 (r_S_0_searcher_shelf 2)), (h_0_rules, oX1 r_0_rules)] [(h_0, oX5 g_0_nextRules h_0_rules h_0_now g_0_past h_0_searcher g_0_dealt g_0_tried P_0), (h_0_searcher, oX2 h_0_searcher_table h_0_searcher_origin h_0_searcher_shelf h_0_searcher_steps h_0_searcher_newest h_0_searcher_older r_Q_0_searcher), (h_0_searcher_steps, eI cI 401 (r_Q_0_searcher 1)), (h_0_searcher_newest, eI cI 256 (r_Q_0_searcher 2)), (h_0_searcher_older, eI cI 401 (r_Q_0_searcher 3)), (h_0_searcher_table, oX4 g_0_searcher_table_rules h_0_searcher_table_lies h_0_searcher_table_tops h_0_searcher_table_list r_T_0_searcher_table), (h_0_searcher_table_lies, eI cI 16 (r_T_0_searcher_table 1)), (h_0_searcher_table_tops, eI cI 10 (r_T_0_searcher_table 2)), (h_0_searcher_table_list, eI cI 160 (r_T_0_searcher_table 3)), (h_0_now, oX4 h_0_rules h_0_now_lies h_0_now_tops h_0_now_list T_0_now), (h_0_now_lies, eI cI 16 (T_0_now 1)), (h_0_now_tops, eI cI 10 (T_0_now 2)), (h_0_now_list, eI cI 160 (T_0_now 3)), (h_0_searcher_origin, oX4 g_0_searcher_origin_rules h_0_searcher_origin_lies h_0_searcher_origin_tops h_0_searcher_origin_list r_T_0_searcher_origin), (h_0_searcher_origin_lies, eI cI 16 (r_T_0_searcher_origin 1)), (h_0_searcher_origin_tops, eI cI 10 (r_T_0_searcher_origin 2)), (h_0_searcher_origin_list, eI cI 160 (r_T_0_searcher_origin 3)), (h_0_searcher_shelf, oX3 h_0_searcher_shelf_lows h_0_searcher_shelf_highs h_0_searcher_shelf_places), (h_0_searcher_shelf_lows, eJ cJ 401 (r_S_0_searcher_shelf 0)), (h_0_searcher_shelf_highs, eJ cJ 401 (r_S_0_searcher_shelf 1)), (h_0_searcher_shelf_places, eJ cJ 401 (r_S_0_searcher_shelf 2)), (h_0_rules, oX1 r_0_rules)] th rv := by
  refine CtXI.of (cc := cX5_known) (maxL := 2) hfl rfl (by decide) rfl (Nat.le_of_ble_eq_true rfl) ⟨rfl, rfl, Nat.le_of_ble_eq_true rfl, Nat.le_of_ble_eq_true rfl⟩ ?_
  intro p e s m args below meth c A H0 Q ls X hS hl kret kthr
  have hCF := X.1
  obtain ⟨⟨hx, hb, hml, hown, hts⟩, hK, hA⟩ := X
  have hl : lv_has ls 2 [(0, .ref h_0), (1, .int v1)] := hl
  have q0 := hts (.fieldLink RX5 38 "Patiencery" "searcher" "LPatiencery$Searcher;") (List.mem_cons_of_mem _ mw_26)
  have inX5 : ∀ w ∈ u_ws RX5 TX5 10, w ∈ wtX5_known := fun w h => List.mem_cons_of_mem _ (inlX5 w h)
  have q2 := hts (.fieldLink RX5 224 "Patiencery$Searcher" "table" "LPatiencery$Table;") (List.mem_cons_of_mem _ mw_407)
  have inX2 : ∀ w ∈ u_ws RX2 TX2 7, w ∈ wtX5_known := fun w h => List.mem_cons_of_mem _ (inlX2 w h)
  have q4 := hts (.fieldLink RX5 22 "Patiencery" "now" "LPatiencery$Table;") (List.mem_cons_of_mem _ mw_18)
  have q5 := hts (.fieldLink RX5 233 "Patiencery$Searcher" "count" "I") (List.mem_cons_of_mem _ mw_458)
  unfold F_X5_known at hF
  refine lv_iload_n hx hb dX5_known_0 rfl (lv_at hl 1 rfl) ?_
  refine lv_iconst (v := (nI 1)) hx hb dX5_known_1 (by decide) ?_
  refine lv_sipush (v := (nI 400)) hx hb dX5_known_2 (by decide) ?_
  replace hF := cal1_e hF
  obtain ⟨x1, hc2, hF⟩ := hF
  refine kS_i (As := [.int v1, .int (nI 1), .int (nI 400)]) (rest := []) (wr := [(h_0, oX5 g_0_nextRules h_0_rules h_0_now g_0_past h_0_searcher g_0_dealt g_0_tried P_0), (h_0_searcher, oX2 h_0_searcher_table h_0_searcher_origin h_0_searcher_shelf h_0_searcher_steps h_0_searcher_newest h_0_searcher_older Q_0_searcher), (h_0_searcher_steps, eI cI 401 (Q_0_searcher 1)), (h_0_searcher_newest, eI cI 256 (Q_0_searcher 2)), (h_0_searcher_older, eI cI 401 (Q_0_searcher 3)), (h_0_searcher_table, oX4 g_0_searcher_table_rules h_0_searcher_table_lies h_0_searcher_table_tops h_0_searcher_table_list T_0_searcher_table), (h_0_searcher_table_lies, eI cI 16 (T_0_searcher_table 1)), (h_0_searcher_table_tops, eI cI 10 (T_0_searcher_table 2)), (h_0_searcher_table_list, eI cI 160 (T_0_searcher_table 3)), (h_0_now, oX4 h_0_rules h_0_now_lies h_0_now_tops h_0_now_list T_0_now), (h_0_now_lies, eI cI 16 (T_0_now 1)), (h_0_now_tops, eI cI 10 (T_0_now 2)), (h_0_now_list, eI cI 160 (T_0_now 3)), (h_0_searcher_origin, oX4 g_0_searcher_origin_rules h_0_searcher_origin_lies h_0_searcher_origin_tops h_0_searcher_origin_list T_0_searcher_origin), (h_0_searcher_origin_lies, eI cI 16 (T_0_searcher_origin 1)), (h_0_searcher_origin_tops, eI cI 10 (T_0_searcher_origin 2)), (h_0_searcher_origin_list, eI cI 160 (T_0_searcher_origin 3)), (h_0_searcher_shelf, oX3 h_0_searcher_shelf_lows h_0_searcher_shelf_highs h_0_searcher_shelf_places), (h_0_searcher_shelf_lows, eJ cJ 401 (S_0_searcher_shelf 0)), (h_0_searcher_shelf_highs, eJ cJ 401 (S_0_searcher_shelf 1)), (h_0_searcher_shelf_places, eJ cJ 401 (S_0_searcher_shelf 2)), (h_0_rules, oX1 r_0_rules)]) (w2 := [(h_0, oX5 g_0_nextRules h_0_rules h_0_now g_0_past h_0_searcher g_0_dealt g_0_tried P_0), (h_0_searcher, oX2 h_0_searcher_table h_0_searcher_origin h_0_searcher_shelf h_0_searcher_steps h_0_searcher_newest h_0_searcher_older Q_0_searcher), (h_0_searcher_steps, eI cI 401 (Q_0_searcher 1)), (h_0_searcher_newest, eI cI 256 (Q_0_searcher 2)), (h_0_searcher_older, eI cI 401 (Q_0_searcher 3)), (h_0_searcher_table, oX4 g_0_searcher_table_rules h_0_searcher_table_lies h_0_searcher_table_tops h_0_searcher_table_list T_0_searcher_table), (h_0_searcher_table_lies, eI cI 16 (T_0_searcher_table 1)), (h_0_searcher_table_tops, eI cI 10 (T_0_searcher_table 2)), (h_0_searcher_table_list, eI cI 160 (T_0_searcher_table 3)), (h_0_now, oX4 h_0_rules h_0_now_lies h_0_now_tops h_0_now_list T_0_now), (h_0_now_lies, eI cI 16 (T_0_now 1)), (h_0_now_tops, eI cI 10 (T_0_now 2)), (h_0_now_list, eI cI 160 (T_0_now 3)), (h_0_searcher_origin, oX4 g_0_searcher_origin_rules h_0_searcher_origin_lies h_0_searcher_origin_tops h_0_searcher_origin_list T_0_searcher_origin), (h_0_searcher_origin_lies, eI cI 16 (T_0_searcher_origin 1)), (h_0_searcher_origin_tops, eI cI 10 (T_0_searcher_origin 2)), (h_0_searcher_origin_list, eI cI 160 (T_0_searcher_origin 3)), (h_0_searcher_shelf, oX3 h_0_searcher_shelf_lows h_0_searcher_shelf_highs h_0_searcher_shelf_places), (h_0_searcher_shelf_lows, eJ cJ 401 (S_0_searcher_shelf 0)), (h_0_searcher_shelf_highs, eJ cJ 401 (S_0_searcher_shelf 1)), (h_0_searcher_shelf_places, eJ cJ 401 (S_0_searcher_shelf 2)), (h_0_rules, oX1 r_0_rules)]) hCF hK (c_X5_isWithin l D cI cJ v1 (nI 1) (nI 400) x1 hc2) (va_cwS 3 hts (TBL_S mw_174 mw_175 mw_2 mw_176) rfl rfl rfl pmX5_isWithin.2 ⟨Nat.le_of_ble_eq_true rfl, Nat.le_of_ble_eq_true rfl⟩) hS hA [] [0, 1, 2, 3, 4, 5, 6, 7, 8, 9, 10, 11, 12, 13, 14, 15, 16, 17, 18, 19, 20, 21] rfl rfl rfl rfl (by decide) rfl hl.1 rfl (Nat.le_of_ble_eq_true rfl) ⟨Nat.zero_le _, Nat.zero_le _⟩ dX5_known_5 rfl (fun H locs hS => ?_)
  refine lv_if_ne (tgt := 21) hx hb dX5_known_8 (by decide) (fun c_3 => ?_) (fun c_3 => ?_)
  · replace hF := ifn hF c_3
    refine lv_aload_n hx hb dX5_known_21 rfl (lv_at hl 0 rfl) ?_
    refine r_get hx hb hts inX5 hown hK hS 0 4 rfl rfl (by decide) q0 rfl dX5_known_22 ?_
    refine r_get hx hb hts inX2 hown hK hS 1 0 rfl rfl (by decide) q2 rfl dX5_known_25 ?_
    refine lv_aload_n hx hb dX5_known_28 rfl (lv_at hl 0 rfl) ?_
    refine r_get hx hb hts inX5 hown hK hS 0 2 rfl rfl (by decide) q4 rfl dX5_known_29 ?_
    replace hF := cal1_e hF
    obtain ⟨T_0_searcher_tableu4, hc5, hF⟩ := hF
    refine kV_v (As := [.ref h_0_now]) (rest := []) (wr := [(h_0, oX5 g_0_nextRules h_0_rules h_0_now g_0_past h_0_searcher g_0_dealt g_0_tried P_0), (h_0_searcher, oX2 h_0_searcher_table h_0_searcher_origin h_0_searcher_shelf h_0_searcher_steps h_0_searcher_newest h_0_searcher_older Q_0_searcher), (h_0_searcher_steps, eI cI 401 (Q_0_searcher 1)), (h_0_searcher_newest, eI cI 256 (Q_0_searcher 2)), (h_0_searcher_older, eI cI 401 (Q_0_searcher 3)), (h_0_searcher_origin, oX4 g_0_searcher_origin_rules h_0_searcher_origin_lies h_0_searcher_origin_tops h_0_searcher_origin_list T_0_searcher_origin), (h_0_searcher_origin_lies, eI cI 16 (T_0_searcher_origin 1)), (h_0_searcher_origin_tops, eI cI 10 (T_0_searcher_origin 2)), (h_0_searcher_origin_list, eI cI 160 (T_0_searcher_origin 3)), (h_0_searcher_shelf, oX3 h_0_searcher_shelf_lows h_0_searcher_shelf_highs h_0_searcher_shelf_places), (h_0_searcher_shelf_lows, eJ cJ 401 (S_0_searcher_shelf 0)), (h_0_searcher_shelf_highs, eJ cJ 401 (S_0_searcher_shelf 1)), (h_0_searcher_shelf_places, eJ cJ 401 (S_0_searcher_shelf 2)), (h_0_rules, oX1 r_0_rules)]) (w2 := [(h_0, oX5 g_0_nextRules h_0_rules h_0_now g_0_past h_0_searcher g_0_dealt g_0_tried P_0), (h_0_searcher, oX2 h_0_searcher_table h_0_searcher_origin h_0_searcher_shelf h_0_searcher_steps h_0_searcher_newest h_0_searcher_older Q_0_searcher), (h_0_searcher_steps, eI cI 401 (Q_0_searcher 1)), (h_0_searcher_newest, eI cI 256 (Q_0_searcher 2)), (h_0_searcher_older, eI cI 401 (Q_0_searcher 3)), (h_0_searcher_origin, oX4 g_0_searcher_origin_rules h_0_searcher_origin_lies h_0_searcher_origin_tops h_0_searcher_origin_list T_0_searcher_origin), (h_0_searcher_origin_lies, eI cI 16 (T_0_searcher_origin 1)), (h_0_searcher_origin_tops, eI cI 10 (T_0_searcher_origin 2)), (h_0_searcher_origin_list, eI cI 160 (T_0_searcher_origin 3)), (h_0_searcher_shelf, oX3 h_0_searcher_shelf_lows h_0_searcher_shelf_highs h_0_searcher_shelf_places), (h_0_searcher_shelf_lows, eJ cJ 401 (S_0_searcher_shelf 0)), (h_0_searcher_shelf_highs, eJ cJ 401 (S_0_searcher_shelf 1)), (h_0_searcher_shelf_places, eJ cJ 401 (S_0_searcher_shelf 2)), (h_0_rules, oX1 r_0_rules), (h_0_searcher_table, oX4 h_0_rules h_0_searcher_table_lies h_0_searcher_table_tops h_0_searcher_table_list T_0_searcher_tableu4), (h_0_searcher_table_lies, eI cI 16 (T_0_searcher_tableu4 1)), (h_0_searcher_table_tops, eI cI 10 (T_0_searcher_tableu4 2)), (h_0_searcher_table_list, eI cI 160 (T_0_searcher_tableu4 3)), (h_0_now, oX4 h_0_rules h_0_now_lies h_0_now_tops h_0_now_list T_0_now), (h_0_now_lies, eI cI 16 (T_0_now 1)), (h_0_now_tops, eI cI 10 (T_0_now 2)), (h_0_now_list, eI cI 160 (T_0_now 3))]) hCF hK (c_X4_copyFrom l D cI cJ h_0_searcher_table h_0_searcher_table_lies h_0_searcher_table_tops h_0_searcher_table_list h_0_now h_0_now_lies h_0_now_tops h_0_now_list g_0_searcher_table_rules h_0_rules T_0_now T_0_searcher_table T_0_searcher_tableu4 hc5) (cwV 1 hts (TBL_V mw_408 mw_409 mw_410 mw_17 mw_411) rfl rfl rfl pmX4_copyFrom ⟨Nat.le_of_ble_eq_true rfl, Nat.le_of_ble_eq_true rfl⟩) hS hA [5, 6, 7, 8, 9, 10, 11, 12] [0, 1, 2, 3, 4, 13, 14, 15, 16, 17, 18, 19, 20, 21] rfl rfl rfl rfl (by decide) rfl rfl rfl hl.1 rfl (Nat.le_of_ble_eq_true rfl) ⟨Nat.zero_le _, Nat.zero_le _⟩ dX5_known_32 rfl (fun H locs hS => ?_)
    refine lv_aload_n hx hb dX5_known_35 rfl (lv_at hl 0 rfl) ?_
    refine r_get hx hb hts inX5 hown hK hS 0 4 rfl rfl (by decide) q0 rfl dX5_known_36 ?_
    refine lv_iload_n hx hb dX5_known_39 rfl (lv_at hl 1 rfl) ?_
    replace hF := cal5_e hF
    obtain ⟨x6, Q_0_searcheru7, T_0_searcher_originu8, T_0_searcher_tableu9, S_0_searcher_shelfu10, hc11, hF⟩ := hF
    refine kV_i (As := [.int v1]) (rest := []) (wr := [(h_0, oX5 g_0_nextRules h_0_rules h_0_now g_0_past h_0_searcher g_0_dealt g_0_tried P_0), (h_0_now, oX4 h_0_rules h_0_now_lies h_0_now_tops h_0_now_list T_0_now), (h_0_now_lies, eI cI 16 (T_0_now 1)), (h_0_now_tops, eI cI 10 (T_0_now 2)), (h_0_now_list, eI cI 160 (T_0_now 3))]) (w2 := [(h_0, oX5 g_0_nextRules h_0_rules h_0_now g_0_past h_0_searcher g_0_dealt g_0_tried P_0), (h_0_now, oX4 h_0_rules h_0_now_lies h_0_now_tops h_0_now_list T_0_now), (h_0_now_lies, eI cI 16 (T_0_now 1)), (h_0_now_tops, eI cI 10 (T_0_now 2)), (h_0_now_list, eI cI 160 (T_0_now 3)), (h_0_searcher, oX2 h_0_searcher_table h_0_searcher_origin h_0_searcher_shelf h_0_searcher_steps h_0_searcher_newest h_0_searcher_older Q_0_searcheru7), (h_0_searcher_steps, eI cI 401 (Q_0_searcheru7 1)), (h_0_searcher_newest, eI cI 256 (Q_0_searcheru7 2)), (h_0_searcher_older, eI cI 401 (Q_0_searcheru7 3)), (h_0_searcher_origin, oX4 h_0_rules h_0_searcher_origin_lies h_0_searcher_origin_tops h_0_searcher_origin_list T_0_searcher_originu8), (h_0_searcher_origin_lies, eI cI 16 (T_0_searcher_originu8 1)), (h_0_searcher_origin_tops, eI cI 10 (T_0_searcher_originu8 2)), (h_0_searcher_origin_list, eI cI 160 (T_0_searcher_originu8 3)), (h_0_searcher_table, oX4 h_0_rules h_0_searcher_table_lies h_0_searcher_table_tops h_0_searcher_table_list T_0_searcher_tableu9), (h_0_searcher_table_lies, eI cI 16 (T_0_searcher_tableu9 1)), (h_0_searcher_table_tops, eI cI 10 (T_0_searcher_tableu9 2)), (h_0_searcher_table_list, eI cI 160 (T_0_searcher_tableu9 3)), (h_0_searcher_shelf, oX3 h_0_searcher_shelf_lows h_0_searcher_shelf_highs h_0_searcher_shelf_places), (h_0_searcher_shelf_lows, eJ cJ 401 (S_0_searcher_shelfu10 0)), (h_0_searcher_shelf_highs, eJ cJ 401 (S_0_searcher_shelfu10 1)), (h_0_searcher_shelf_places, eJ cJ 401 (S_0_searcher_shelfu10 2)), (h_0_rules, oX1 r_0_rules)]) hCF hK (c_X2_run l D cI cJ h_0_searcher h_0_searcher_steps h_0_searcher_newest h_0_searcher_older h_0_searcher_origin h_0_searcher_origin_lies h_0_searcher_origin_tops h_0_searcher_origin_list h_0_searcher_table h_0_searcher_table_lies h_0_searcher_table_tops h_0_searcher_table_list h_0_searcher_shelf h_0_searcher_shelf_lows h_0_searcher_shelf_highs h_0_searcher_shelf_places h_0_rules g_0_searcher_origin_rules r_0_rules Q_0_searcher T_0_searcher_origin T_0_searcher_tableu4 S_0_searcher_shelf v1 x6 Q_0_searcheru7 T_0_searcher_originu8 T_0_searcher_tableu9 S_0_searcher_shelfu10 hc11) (cwV 1 hts (TBL_V mw_416 mw_417 mw_418 mw_25 mw_419) rfl rfl rfl pmX2_run ⟨Nat.le_of_ble_eq_true rfl, Nat.le_of_ble_eq_true rfl⟩) hS hA [1, 2, 3, 4, 5, 6, 7, 8, 14, 15, 16, 17, 9, 10, 11, 12, 13] [0, 18, 19, 20, 21] rfl rfl rfl rfl (by decide) rfl rfl rfl hl.1 rfl (Nat.le_of_ble_eq_true rfl) ⟨Nat.zero_le _, Nat.zero_le _⟩ dX5_known_40 rfl (fun H locs hS => ?_)
    refine lv_pop hx hb dX5_known_43 rfl ?_
    refine lv_aload_n hx hb dX5_known_44 rfl (lv_at hl 0 rfl) ?_
    refine r_get hx hb hts inX5 hown hK hS 0 4 rfl rfl (by decide) q0 rfl dX5_known_45 ?_
    refine r_get hx hb hts inX2 hown hK hS 5 1 rfl rfl (by decide) q5 rfl dX5_known_48 ?_
    have e9_0 := Option.some.inj hF
    obtain ⟨f9_0, e9_1⟩ := Prod.mk.inj e9_0
    obtain ⟨f9_1, e9_2⟩ := Prod.mk.inj e9_1
    obtain ⟨f9_2, e9_3⟩ := Prod.mk.inj e9_2
    obtain ⟨f9_3, e9_4⟩ := Prod.mk.inj e9_3
    obtain ⟨f9_4, e9_5⟩ := Prod.mk.inj e9_4
    subst f9_0
    subst f9_1
    subst f9_2
    subst f9_3
    subst f9_4
    subst e9_5
    exact kret _ _ _ _ rfl (hS.sub [0, 5, 6, 7, 8, 13, 14, 15, 16, 1, 2, 3, 4, 9, 10, 11, 12, 17, 18, 19, 20, 21] rfl rfl) dX5_known_51
  · replace hF := ifp hF c_3
    have e9_0 := Option.some.inj hF
    obtain ⟨f9_0, e9_1⟩ := Prod.mk.inj e9_0
    obtain ⟨f9_1, e9_2⟩ := Prod.mk.inj e9_1
    obtain ⟨f9_2, e9_3⟩ := Prod.mk.inj e9_2
    obtain ⟨f9_3, e9_4⟩ := Prod.mk.inj e9_3
    obtain ⟨f9_4, e9_5⟩ := Prod.mk.inj e9_4
    subst f9_0
    subst f9_1
    subst f9_2
    subst f9_3
    subst f9_4
    subst e9_5
    exact kthr 1 222 _ _ _ _ _ rfl (by decide) (List.mem_of_getElem? (i := 15) rfl) hS hl.1 dX5_known_11 dX5_known_14 dX5_known_15 dX5_known_17 dX5_known_20
set_option maxHeartbeats 4000000 in
set_option maxRecDepth 100000 in
theorem c_X5_odds (l : Launch) (D : va_G) (cI cJ : ClassId) (hfl : l.stackTraces = false) (h_0 h_0_nextRules h_0_tried h_0_tried_row h_0_tried_taken h_0_searcher h_0_searcher_steps h_0_searcher_newest h_0_searcher_older h_0_searcher_table h_0_searcher_table_lies h_0_searcher_table_tops h_0_searcher_table_list h_0_searcher_origin h_0_searcher_origin_lies h_0_searcher_origin_tops h_0_searcher_origin_list h_0_searcher_shelf h_0_searcher_shelf_lows h_0_searcher_shelf_highs h_0_searcher_shelf_places g_0_rules g_0_now g_0_past g_0_dealt g_0_searcher_table_rules g_0_searcher_origin_rules : Nat) (P_0 : Nat → Int32) (r_0_nextRules : Nat → Int32) (D_0_tried : Nat → Nat → Int32) (Q_0_searcher : Nat → Nat → Int32) (T_0_searcher_table : Nat → Nat → Int32) (T_0_searcher_origin : Nat → Nat → Int32) (S_0_searcher_shelf : Nat → Nat → Int64) (v1 : Int32) (v2 : Int32) (v3 : Int32) (v4 : Int32) (th : Nat) (rv : Int32) (r_D_0_tried : Nat → Nat → Int32) (r_Q_0_searcher : Nat → Nat → Int32) (r_T_0_searcher_table : Nat → Nat → Int32) (r_T_0_searcher_origin : Nat → Nat → Int32) (r_S_0_searcher_shelf : Nat → Nat → Int64) (hF : F_X5_odds P_0 r_0_nextRules D_0_tried Q_0_searcher T_0_searcher_table T_0_searcher_origin S_0_searcher_shelf v1 v2 v3 v4 = some (th, rv, r_D_0_tried, r_Q_0_searcher, r_T_0_searcher_table, r_T_0_searcher_origin, r_S_0_searcher_shelf)) : CtXIe l D [(cI, .int), (cJ, .long)] yX5_odds wtX5_odds ({ frames := 6, cells := 1, slots := 6, locals := 140 } : Room) [.ref h_0, .int v1, .int v2, .int v3, .int v4] [(h_0, oX5 h_0_nextRules g_0_rules g_0_now g_0_past h_0_searcher g_0_dealt h_0_tried P_0), (h_0_nextRules, oX1 r_0_nextRules), (h_0_tried, oX0 h_0_tried_row h_0_tried_taken), (h_0_tried_row, eI cI 16 (D_0_tried 0)), (h_0_tried_taken, eI cI 16 (D_0_tried 1)), (h_0_searcher, oX2 h_0_searcher_table h_0_searcher_origin h_0_searcher_shelf h_0_searcher_steps h_0_searcher_newest h_0_searcher_older Q_0_searcher), (h_0_searcher_steps, eI cI 401 (Q_0_searcher 1)), (h_0_searcher_newest, eI cI 256 (Q_0_searcher 2)), (h_0_searcher_older, eI cI 401 (Q_0_searcher 3)), (h_0_searcher_table, oX4 g_0_searcher_table_rules h_0_searcher_table_lies h_0_searcher_table_tops h_0_searcher_table_list T_0_searcher_table), (h_0_searcher_table_lies, eI cI 16 (T_0_searcher_table 1)), (h_0_searcher_table_tops, eI cI 10 (T_0_searcher_table 2)), (h_0_searcher_table_list, eI cI 160 (T_0_searcher_table 3)), (h_0_searcher_origin, oX4 g_0_searcher_origin_rules h_0_searcher_origin_lies h_0_searcher_origin_tops h_0_searcher_origin_list T_0_searcher_origin), (h_0_searcher_origin_lies, eI cI 16 (T_0_searcher_origin 1)), (h_0_searcher_origin_tops, eI cI 10 (T_0_searcher_origin 2)), (h_0_searcher_origin_list, eI cI 160 (T_0_searcher_origin 3)), (h_0_searcher_shelf, oX3 h_0_searcher_shelf_lows h_0_searcher_shelf_highs h_0_searcher_shelf_places), (h_0_searcher_shelf_lows, eJ cJ 401 (S_0_searcher_shelf 0)), (h_0_searcher_shelf_highs, eJ cJ 401 (S_0_searcher_shelf 1)), (h_0_searcher_shelf_places, eJ cJ 401 (S_0_searcher_shelf 2))] (fun (w_0_searcher_origin_rules w_0_searcher_table_rules : Nat) => [(h_0, oX5 h_0_nextRules g_0_rules g_0_now g_0_past h_0_searcher g_0_dealt h_0_tried P_0), (h_0_nextRules, oX1 r_0_nextRules), (h_0_tried, oX0 h_0_tried_row h_0_tried_taken), (h_0_tried_row, eI cI 16 (r_D_0_tried 0)), (h_0_tried_taken, eI cI 16 (r_D_0_tried 1)), (h_0_searcher, oX2 h_0_searcher_table h_0_searcher_origin h_0_searcher_shelf h_0_searcher_steps h_0_searcher_newest h_0_searcher_older r_Q_0_searcher), (h_0_searcher_steps, eI cI 401 (r_Q_0_searcher 1)), (h_0_searcher_newest, eI cI 256 (r_Q_0_searcher 2)), (h_0_searcher_older, eI cI 401 (r_Q_0_searcher 3)), (h_0_searcher_table, oX4 w_0_searcher_table_rules h_0_searcher_table_lies h_0_searcher_table_tops h_0_searcher_table_list r_T_0_searcher_table), (h_0_searcher_table_lies, eI cI 16 (r_T_0_searcher_table 1)), (h_0_searcher_table_tops, eI cI 10 (r_T_0_searcher_table 2)), (h_0_searcher_table_list, eI cI 160 (r_T_0_searcher_table 3)), (h_0_searcher_origin, oX4 w_0_searcher_origin_rules h_0_searcher_origin_lies h_0_searcher_origin_tops h_0_searcher_origin_list r_T_0_searcher_origin), (h_0_searcher_origin_lies, eI cI 16 (r_T_0_searcher_origin 1)), (h_0_searcher_origin_tops, eI cI 10 (r_T_0_searcher_origin 2)), (h_0_searcher_origin_list, eI cI 160 (r_T_0_searcher_origin 3)), (h_0_searcher_shelf, oX3 h_0_searcher_shelf_lows h_0_searcher_shelf_highs h_0_searcher_shelf_places), (h_0_searcher_shelf_lows, eJ cJ 401 (r_S_0_searcher_shelf 0)), (h_0_searcher_shelf_highs, eJ cJ 401 (r_S_0_searcher_shelf 1)), (h_0_searcher_shelf_places, eJ cJ 401 (r_S_0_searcher_shelf 2))]) [(h_0, oX5 h_0_nextRules g_0_rules g_0_now g_0_past h_0_searcher g_0_dealt h_0_tried P_0), (h_0_nextRules, oX1 r_0_nextRules), (h_0_tried, oX0 h_0_tried_row h_0_tried_taken), (h_0_tried_row, eI cI 16 (r_D_0_tried 0)), (h_0_tried_taken, eI cI 16 (r_D_0_tried 1)), (h_0_searcher, oX2 h_0_searcher_table h_0_searcher_origin h_0_searcher_shelf h_0_searcher_steps h_0_searcher_newest h_0_searcher_older r_Q_0_searcher), (h_0_searcher_steps, eI cI 401 (r_Q_0_searcher 1)), (h_0_searcher_newest, eI cI 256 (r_Q_0_searcher 2)), (h_0_searcher_older, eI cI 401 (r_Q_0_searcher 3)), (h_0_searcher_table, oX4 g_0_searcher_table_rules h_0_searcher_table_lies h_0_searcher_table_tops h_0_searcher_table_list r_T_0_searcher_table), (h_0_searcher_table_lies, eI cI 16 (r_T_0_searcher_table 1)), (h_0_searcher_table_tops, eI cI 10 (r_T_0_searcher_table 2)), (h_0_searcher_table_list, eI cI 160 (r_T_0_searcher_table 3)), (h_0_searcher_origin, oX4 g_0_searcher_origin_rules h_0_searcher_origin_lies h_0_searcher_origin_tops h_0_searcher_origin_list r_T_0_searcher_origin), (h_0_searcher_origin_lies, eI cI 16 (r_T_0_searcher_origin 1)), (h_0_searcher_origin_tops, eI cI 10 (r_T_0_searcher_origin 2)), (h_0_searcher_origin_list, eI cI 160 (r_T_0_searcher_origin 3)), (h_0_searcher_shelf, oX3 h_0_searcher_shelf_lows h_0_searcher_shelf_highs h_0_searcher_shelf_places), (h_0_searcher_shelf_lows, eJ cJ 401 (r_S_0_searcher_shelf 0)), (h_0_searcher_shelf_highs, eJ cJ 401 (r_S_0_searcher_shelf 1)), (h_0_searcher_shelf_places, eJ cJ 401 (r_S_0_searcher_shelf 2))] th rv := by
  refine CtXIe.of (cc := cX5_odds) (maxL := 9) hfl rfl (by decide) rfl (Nat.le_of_ble_eq_true rfl) ⟨rfl, rfl, Nat.le_of_ble_eq_true rfl, Nat.le_of_ble_eq_true rfl⟩ ?_
  intro p e s m args below meth c A H0 Q ls X hS hl kret kthr
  have hCF := X.1
  obtain ⟨⟨hx, hb, hml, hown, hts⟩, hK, hA⟩ := X
  have hl : lv_has ls 9 [(0, .ref h_0), (1, .int v1), (2, .int v2), (3, .int v3), (4, .int v4)] := hl
  have q0 := hts (.fieldLink RX5 49 "Patiencery" "tried" "LPatiencery$Drawing;") (List.mem_cons_of_mem _ mw_31)
  have inX5 : ∀ w ∈ u_ws RX5 TX5 10, w ∈ wtX5_odds := fun w h => List.mem_cons_of_mem _ (inlX5 w h)
  have q2 := hts (.fieldLink RX5 10 "Patiencery" "nextRules" "LPatiencery$Rules;") (List.mem_cons_of_mem _ mw_13)
  have q3 := hts (.fieldLink RX5 38 "Patiencery" "searcher" "LPatiencery$Searcher;") (List.mem_cons_of_mem _ mw_26)
  have q4 := hts (.fieldLink RX5 224 "Patiencery$Searcher" "table" "LPatiencery$Table;") (List.mem_cons_of_mem _ mw_407)
  have inX2 : ∀ w ∈ u_ws RX2 TX2 7, w ∈ wtX5_odds := fun w h => List.mem_cons_of_mem _ (inlX2 w h)
  have q6 := hts (.constant RX5 119 (1000000)) (List.mem_cons_of_mem _ mw_204)
  have B150 : ∀ (D_0_tried : Nat → Nat → Int32) (Q_0_searcher : Nat → Nat → Int32) (T_0_searcher_table : Nat → Nat → Int32) (T_0_searcher_origin : Nat → Nat → Int32) (S_0_searcher_shelf : Nat → Nat → Int64) (v5 : Int32) (v6 : Int32) (w_0_searcher_origin_rules : Nat) (w_0_searcher_table_rules : Nat) (H : Heap) (locs : List Loc) (ls : Array Slot), HS D A H0 [(h_0, oX5 h_0_nextRules g_0_rules g_0_now g_0_past h_0_searcher g_0_dealt h_0_tried P_0), (h_0_nextRules, oX1 r_0_nextRules), (h_0_tried, oX0 h_0_tried_row h_0_tried_taken), (h_0_tried_row, eI cI 16 (D_0_tried 0)), (h_0_tried_taken, eI cI 16 (D_0_tried 1)), (h_0_searcher, oX2 h_0_searcher_table h_0_searcher_origin h_0_searcher_shelf h_0_searcher_steps h_0_searcher_newest h_0_searcher_older Q_0_searcher), (h_0_searcher_steps, eI cI 401 (Q_0_searcher 1)), (h_0_searcher_newest, eI cI 256 (Q_0_searcher 2)), (h_0_searcher_older, eI cI 401 (Q_0_searcher 3)), (h_0_searcher_table, oX4 w_0_searcher_table_rules h_0_searcher_table_lies h_0_searcher_table_tops h_0_searcher_table_list T_0_searcher_table), (h_0_searcher_table_lies, eI cI 16 (T_0_searcher_table 1)), (h_0_searcher_table_tops, eI cI 10 (T_0_searcher_table 2)), (h_0_searcher_table_list, eI cI 160 (T_0_searcher_table 3)), (h_0_searcher_origin, oX4 w_0_searcher_origin_rules h_0_searcher_origin_lies h_0_searcher_origin_tops h_0_searcher_origin_list T_0_searcher_origin), (h_0_searcher_origin_lies, eI cI 16 (T_0_searcher_origin 1)), (h_0_searcher_origin_tops, eI cI 10 (T_0_searcher_origin 2)), (h_0_searcher_origin_list, eI cI 160 (T_0_searcher_origin 3)), (h_0_searcher_shelf, oX3 h_0_searcher_shelf_lows h_0_searcher_shelf_highs h_0_searcher_shelf_places), (h_0_searcher_shelf_lows, eJ cJ 401 (S_0_searcher_shelf 0)), (h_0_searcher_shelf_highs, eJ cJ 401 (S_0_searcher_shelf 1)), (h_0_searcher_shelf_places, eJ cJ 401 (S_0_searcher_shelf 2))] H locs → lv_has ls 9 [(5, .int v5), (6, .int v6)] → F_X5_odds_b150 P_0 r_0_nextRules  D_0_tried Q_0_searcher T_0_searcher_table T_0_searcher_origin S_0_searcher_shelf v5 v6 = some (th, rv, r_D_0_tried, r_Q_0_searcher, r_T_0_searcher_table, r_T_0_searcher_origin, r_S_0_searcher_shelf) → W p l e ({ frames := 6, cells := 1, slots := 6, locals := 140 } : Room) s m args below meth c H locs 0 0 Q (F0 m 150 ls []) := by
    intro D_0_tried Q_0_searcher T_0_searcher_table T_0_searcher_origin S_0_searcher_shelf v5 v6 w_0_searcher_origin_rules w_0_searcher_table_rules H locs ls hS hl hF
    unfold F_X5_odds_b150 at hF
    refine lv_bipush (v := (nI 10)) hx hb dX5_odds_150 (by decide) ?_
    refine lv_iload hx hb dX5_odds_152 (lv_at hl 0 rfl) ?_
    refine lv_imul hx hb dX5_odds_154 ?_
    refine lv_iload hx hb dX5_odds_155 (lv_at hl 1 rfl) ?_
    refine lv_iadd hx hb dX5_odds_157 ?_
    have e9_0 := Option.some.inj hF
    obtain ⟨f9_0, e9_1⟩ := Prod.mk.inj e9_0
    obtain ⟨f9_1, e9_2⟩ := Prod.mk.inj e9_1
    obtain ⟨f9_2, e9_3⟩ := Prod.mk.inj e9_2
    obtain ⟨f9_3, e9_4⟩ := Prod.mk.inj e9_3
    obtain ⟨f9_4, e9_5⟩ := Prod.mk.inj e9_4
    obtain ⟨f9_5, e9_6⟩ := Prod.mk.inj e9_5
    subst f9_0
    subst f9_1
    subst f9_2
    subst f9_3
    subst f9_4
    subst f9_5
    subst e9_6
    exact kret w_0_searcher_origin_rules w_0_searcher_table_rules _ _ _ _ rfl hS dX5_odds_158
  have S70 : ∀ (K70 : (Nat → Nat → Int32) → (Nat → Nat → Int32) → (Nat → Nat → Int32) → (Nat → Nat → Int32) → (Nat → Nat → Int64) → Int32 → Int32 → Int32 → Int32 → Int32 → Int32 → Int32 → Option (Nat × Int32 × (Nat → Nat → Int32) × (Nat → Nat → Int32) × (Nat → Nat → Int32) × (Nat → Nat → Int32) × (Nat → Nat → Int64))) (_ : ∀ (D_0_tried : Nat → Nat → Int32) (Q_0_searcher : Nat → Nat → Int32) (T_0_searcher_table : Nat → Nat → Int32) (T_0_searcher_origin : Nat → Nat → Int32) (S_0_searcher_shelf : Nat → Nat → Int64) (v1 : Int32) (v2 : Int32) (v3 : Int32) (v4 : Int32) (v5 : Int32) (v6 : Int32) (v7 : Int32) (w_0_searcher_origin_rules : Nat) (w_0_searcher_table_rules : Nat) (H : Heap) (locs : List Loc) (ls : Array Slot), HS D A H0 [(h_0, oX5 h_0_nextRules g_0_rules g_0_now g_0_past h_0_searcher g_0_dealt h_0_tried P_0), (h_0_nextRules, oX1 r_0_nextRules), (h_0_tried, oX0 h_0_tried_row h_0_tried_taken), (h_0_tried_row, eI cI 16 (D_0_tried 0)), (h_0_tried_taken, eI cI 16 (D_0_tried 1)), (h_0_searcher, oX2 h_0_searcher_table h_0_searcher_origin h_0_searcher_shelf h_0_searcher_steps h_0_searcher_newest h_0_searcher_older Q_0_searcher), (h_0_searcher_steps, eI cI 401 (Q_0_searcher 1)), (h_0_searcher_newest, eI cI 256 (Q_0_searcher 2)), (h_0_searcher_older, eI cI 401 (Q_0_searcher 3)), (h_0_searcher_table, oX4 w_0_searcher_table_rules h_0_searcher_table_lies h_0_searcher_table_tops h_0_searcher_table_list T_0_searcher_table), (h_0_searcher_table_lies, eI cI 16 (T_0_searcher_table 1)), (h_0_searcher_table_tops, eI cI 10 (T_0_searcher_table 2)), (h_0_searcher_table_list, eI cI 160 (T_0_searcher_table 3)), (h_0_searcher_origin, oX4 w_0_searcher_origin_rules h_0_searcher_origin_lies h_0_searcher_origin_tops h_0_searcher_origin_list T_0_searcher_origin), (h_0_searcher_origin_lies, eI cI 16 (T_0_searcher_origin 1)), (h_0_searcher_origin_tops, eI cI 10 (T_0_searcher_origin 2)), (h_0_searcher_origin_list, eI cI 160 (T_0_searcher_origin 3)), (h_0_searcher_shelf, oX3 h_0_searcher_shelf_lows h_0_searcher_shelf_highs h_0_searcher_shelf_places), (h_0_searcher_shelf_lows, eJ cJ 401 (S_0_searcher_shelf 0)), (h_0_searcher_shelf_highs, eJ cJ 401 (S_0_searcher_shelf 1)), (h_0_searcher_shelf_places, eJ cJ 401 (S_0_searcher_shelf 2))] H locs → lv_has ls 9 [(0, .ref h_0), (1, .int v1), (2, .int v2), (3, .int v3), (4, .int v4), (5, .int v5), (6, .int v6), (7, .int v7)] → K70 D_0_tried Q_0_searcher T_0_searcher_table T_0_searcher_origin S_0_searcher_shelf v1 v2 v3 v4 v5 v6 v7 = some (th, rv, r_D_0_tried, r_Q_0_searcher, r_T_0_searcher_table, r_T_0_searcher_origin, r_S_0_searcher_shelf) → W p l e ({ frames := 6, cells := 1, slots := 6, locals := 140 } : Room) s m args below meth c H locs 0 0 Q (F0 m 70 ls [])) (D_0_tried : Nat → Nat → Int32) (Q_0_searcher : Nat → Nat → Int32) (T_0_searcher_table : Nat → Nat → Int32) (T_0_searcher_origin : Nat → Nat → Int32) (S_0_searcher_shelf : Nat → Nat → Int64) (v1 : Int32) (v2 : Int32) (v3 : Int32) (v4 : Int32) (v5 : Int32) (v6 : Int32) (v7 : Int32) (w_0_searcher_origin_rules : Nat) (w_0_searcher_table_rules : Nat) (H : Heap) (locs : List Loc) (ls : Array Slot), HS D A H0 [(h_0, oX5 h_0_nextRules g_0_rules g_0_now g_0_past h_0_searcher g_0_dealt h_0_tried P_0), (h_0_nextRules, oX1 r_0_nextRules), (h_0_tried, oX0 h_0_tried_row h_0_tried_taken), (h_0_tried_row, eI cI 16 (D_0_tried 0)), (h_0_tried_taken, eI cI 16 (D_0_tried 1)), (h_0_searcher, oX2 h_0_searcher_table h_0_searcher_origin h_0_searcher_shelf h_0_searcher_steps h_0_searcher_newest h_0_searcher_older Q_0_searcher), (h_0_searcher_steps, eI cI 401 (Q_0_searcher 1)), (h_0_searcher_newest, eI cI 256 (Q_0_searcher 2)), (h_0_searcher_older, eI cI 401 (Q_0_searcher 3)), (h_0_searcher_table, oX4 w_0_searcher_table_rules h_0_searcher_table_lies h_0_searcher_table_tops h_0_searcher_table_list T_0_searcher_table), (h_0_searcher_table_lies, eI cI 16 (T_0_searcher_table 1)), (h_0_searcher_table_tops, eI cI 10 (T_0_searcher_table 2)), (h_0_searcher_table_list, eI cI 160 (T_0_searcher_table 3)), (h_0_searcher_origin, oX4 w_0_searcher_origin_rules h_0_searcher_origin_lies h_0_searcher_origin_tops h_0_searcher_origin_list T_0_searcher_origin), (h_0_searcher_origin_lies, eI cI 16 (T_0_searcher_origin 1)), (h_0_searcher_origin_tops, eI cI 10 (T_0_searcher_origin 2)), (h_0_searcher_origin_list, eI cI 160 (T_0_searcher_origin 3)), (h_0_searcher_shelf, oX3 h_0_searcher_shelf_lows h_0_searcher_shelf_highs h_0_searcher_shelf_places), (h_0_searcher_shelf_lows, eJ cJ 401 (S_0_searcher_shelf 0)), (h_0_searcher_shelf_highs, eJ cJ 401 (S_0_searcher_shelf 1)), (h_0_searcher_shelf_places, eJ cJ 401 (S_0_searcher_shelf 2))] H locs → lv_has ls 9 [(0, .ref h_0), (1, .int v1), (2, .int v2), (3, .int v3), (4, .int v4), (5, .int v5), (6, .int v6), (7, .int v7)] → F_X5_odds_s70 P_0 r_0_nextRules K70 D_0_tried Q_0_searcher T_0_searcher_table T_0_searcher_origin S_0_searcher_shelf v1 v2 v3 v4 v5 v6 v7 = some (th, rv, r_D_0_tried, r_Q_0_searcher, r_T_0_searcher_table, r_T_0_searcher_origin, r_S_0_searcher_shelf) → W p l e ({ frames := 6, cells := 1, slots := 6, locals := 140 } : Room) s m args below meth c H locs 0 0 Q (F0 m 70 ls []) := by
    intro K70 hK70 D_0_tried Q_0_searcher T_0_searcher_table T_0_searcher_origin S_0_searcher_shelf v1 v2 v3 v4 v5 v6 v7 w_0_searcher_origin_rules w_0_searcher_table_rules H locs ls hS hl hF
    unfold F_X5_odds_s70 at hF
    refine lv_iload hx hb dX5_odds_70 (lv_at hl 7 rfl) ?_
    refine lv_iload_n hx hb dX5_odds_72 rfl (lv_at hl 3 rfl) ?_
    refine lv_icmp_ge (tgt := 150) hx hb dX5_odds_73 (by decide) (fun c_1 => ?_) (fun c_1 => ?_)
    · replace hF := ifp hF c_1
      exact B150 D_0_tried Q_0_searcher T_0_searcher_table T_0_searcher_origin S_0_searcher_shelf v5 v6 w_0_searcher_origin_rules w_0_searcher_table_rules _ _ _ hS (lv_sub hl [5, 6] rfl) hF
    · replace hF := ifn hF c_1
      refine lv_aload_n hx hb dX5_odds_76 rfl (lv_at hl 0 rfl) ?_
      refine r_get hx hb hts inX5 hown hK hS 0 6 rfl rfl (by decide) q0 rfl dX5_odds_77 ?_
      refine lv_iload_n hx hb dX5_odds_80 rfl (lv_at hl 1 rfl) ?_
      refine lv_iload_n hx hb dX5_odds_81 rfl (lv_at hl 2 rfl) ?_
      refine lv_iload hx hb dX5_odds_82 (lv_at hl 7 rfl) ?_
      refine lv_iadd hx hb dX5_odds_84 ?_
      refine lv_aload_n hx hb dX5_odds_85 rfl (lv_at hl 0 rfl) ?_
      refine r_get hx hb hts inX5 hown hK hS 0 0 rfl rfl (by decide) q2 rfl dX5_odds_86 ?_
      replace hF := cal1_e hF
      obtain ⟨x2, hc3, hF⟩ := hF
      refine kV_i (As := []) (rest := [.int (v2 + v7), .int v1, .ref h_0_tried]) (wr := [(h_0, oX5 h_0_nextRules g_0_rules g_0_now g_0_past h_0_searcher g_0_dealt h_0_tried P_0), (h_0_tried, oX0 h_0_tried_row h_0_tried_taken), (h_0_tried_row, eI cI 16 (D_0_tried 0)), (h_0_tried_taken, eI cI 16 (D_0_tried 1)), (h_0_searcher, oX2 h_0_searcher_table h_0_searcher_origin h_0_searcher_shelf h_0_searcher_steps h_0_searcher_newest h_0_searcher_older Q_0_searcher), (h_0_searcher_steps, eI cI 401 (Q_0_searcher 1)), (h_0_searcher_newest, eI cI 256 (Q_0_searcher 2)), (h_0_searcher_older, eI cI 401 (Q_0_searcher 3)), (h_0_searcher_table, oX4 w_0_searcher_table_rules h_0_searcher_table_lies h_0_searcher_table_tops h_0_searcher_table_list T_0_searcher_table), (h_0_searcher_table_lies, eI cI 16 (T_0_searcher_table 1)), (h_0_searcher_table_tops, eI cI 10 (T_0_searcher_table 2)), (h_0_searcher_table_list, eI cI 160 (T_0_searcher_table 3)), (h_0_searcher_origin, oX4 w_0_searcher_origin_rules h_0_searcher_origin_lies h_0_searcher_origin_tops h_0_searcher_origin_list T_0_searcher_origin), (h_0_searcher_origin_lies, eI cI 16 (T_0_searcher_origin 1)), (h_0_searcher_origin_tops, eI cI 10 (T_0_searcher_origin 2)), (h_0_searcher_origin_list, eI cI 160 (T_0_searcher_origin 3)), (h_0_searcher_shelf, oX3 h_0_searcher_shelf_lows h_0_searcher_shelf_highs h_0_searcher_shelf_places), (h_0_searcher_shelf_lows, eJ cJ 401 (S_0_searcher_shelf 0)), (h_0_searcher_shelf_highs, eJ cJ 401 (S_0_searcher_shelf 1)), (h_0_searcher_shelf_places, eJ cJ 401 (S_0_searcher_shelf 2))]) (w2 := [(h_0, oX5 h_0_nextRules g_0_rules g_0_now g_0_past h_0_searcher g_0_dealt h_0_tried P_0), (h_0_tried, oX0 h_0_tried_row h_0_tried_taken), (h_0_tried_row, eI cI 16 (D_0_tried 0)), (h_0_tried_taken, eI cI 16 (D_0_tried 1)), (h_0_searcher, oX2 h_0_searcher_table h_0_searcher_origin h_0_searcher_shelf h_0_searcher_steps h_0_searcher_newest h_0_searcher_older Q_0_searcher), (h_0_searcher_steps, eI cI 401 (Q_0_searcher 1)), (h_0_searcher_newest, eI cI 256 (Q_0_searcher 2)), (h_0_searcher_older, eI cI 401 (Q_0_searcher 3)), (h_0_searcher_table, oX4 w_0_searcher_table_rules h_0_searcher_table_lies h_0_searcher_table_tops h_0_searcher_table_list T_0_searcher_table), (h_0_searcher_table_lies, eI cI 16 (T_0_searcher_table 1)), (h_0_searcher_table_tops, eI cI 10 (T_0_searcher_table 2)), (h_0_searcher_table_list, eI cI 160 (T_0_searcher_table 3)), (h_0_searcher_origin, oX4 w_0_searcher_origin_rules h_0_searcher_origin_lies h_0_searcher_origin_tops h_0_searcher_origin_list T_0_searcher_origin), (h_0_searcher_origin_lies, eI cI 16 (T_0_searcher_origin 1)), (h_0_searcher_origin_tops, eI cI 10 (T_0_searcher_origin 2)), (h_0_searcher_origin_list, eI cI 160 (T_0_searcher_origin 3)), (h_0_searcher_shelf, oX3 h_0_searcher_shelf_lows h_0_searcher_shelf_highs h_0_searcher_shelf_places), (h_0_searcher_shelf_lows, eJ cJ 401 (S_0_searcher_shelf 0)), (h_0_searcher_shelf_highs, eJ cJ 401 (S_0_searcher_shelf 1)), (h_0_searcher_shelf_places, eJ cJ 401 (S_0_searcher_shelf 2)), (h_0_nextRules, oX1 r_0_nextRules)]) hCF hK (c_X1_cards l D cI cJ h_0_nextRules r_0_nextRules x2 hc3) (cwV 0 hts (TBL_V mw_93 mw_94 mw_95 mw_12 mw_96) rfl rfl rfl pmX1_cards ⟨Nat.le_of_ble_eq_true rfl, Nat.le_of_ble_eq_true rfl⟩) hS hA [1] [0, 2, 3, 4, 5, 6, 7, 8, 9, 10, 11, 12, 13, 14, 15, 16, 17, 18, 19, 20] rfl rfl rfl rfl (by decide) rfl rfl rfl hl.1 rfl (Nat.le_of_ble_eq_true rfl) ⟨Nat.zero_le _, Nat.zero_le _⟩ dX5_odds_89 rfl (fun H locs hS => ?_)
      replace hF := cal1_e hF
      obtain ⟨D_0_triedu4, hc5, hF⟩ := hF
      refine kV_v (As := [.int v1, .int (v2 + v7), .int x2]) (rest := []) (wr := [(h_0, oX5 h_0_nextRules g_0_rules g_0_now g_0_past h_0_searcher g_0_dealt h_0_tried P_0), (h_0_searcher, oX2 h_0_searcher_table h_0_searcher_origin h_0_searcher_shelf h_0_searcher_steps h_0_searcher_newest h_0_searcher_older Q_0_searcher), (h_0_searcher_steps, eI cI 401 (Q_0_searcher 1)), (h_0_searcher_newest, eI cI 256 (Q_0_searcher 2)), (h_0_searcher_older, eI cI 401 (Q_0_searcher 3)), (h_0_searcher_table, oX4 w_0_searcher_table_rules h_0_searcher_table_lies h_0_searcher_table_tops h_0_searcher_table_list T_0_searcher_table), (h_0_searcher_table_lies, eI cI 16 (T_0_searcher_table 1)), (h_0_searcher_table_tops, eI cI 10 (T_0_searcher_table 2)), (h_0_searcher_table_list, eI cI 160 (T_0_searcher_table 3)), (h_0_searcher_origin, oX4 w_0_searcher_origin_rules h_0_searcher_origin_lies h_0_searcher_origin_tops h_0_searcher_origin_list T_0_searcher_origin), (h_0_searcher_origin_lies, eI cI 16 (T_0_searcher_origin 1)), (h_0_searcher_origin_tops, eI cI 10 (T_0_searcher_origin 2)), (h_0_searcher_origin_list, eI cI 160 (T_0_searcher_origin 3)), (h_0_searcher_shelf, oX3 h_0_searcher_shelf_lows h_0_searcher_shelf_highs h_0_searcher_shelf_places), (h_0_searcher_shelf_lows, eJ cJ 401 (S_0_searcher_shelf 0)), (h_0_searcher_shelf_highs, eJ cJ 401 (S_0_searcher_shelf 1)), (h_0_searcher_shelf_places, eJ cJ 401 (S_0_searcher_shelf 2)), (h_0_nextRules, oX1 r_0_nextRules)]) (w2 := [(h_0, oX5 h_0_nextRules g_0_rules g_0_now g_0_past h_0_searcher g_0_dealt h_0_tried P_0), (h_0_searcher, oX2 h_0_searcher_table h_0_searcher_origin h_0_searcher_shelf h_0_searcher_steps h_0_searcher_newest h_0_searcher_older Q_0_searcher), (h_0_searcher_steps, eI cI 401 (Q_0_searcher 1)), (h_0_searcher_newest, eI cI 256 (Q_0_searcher 2)), (h_0_searcher_older, eI cI 401 (Q_0_searcher 3)), (h_0_searcher_table, oX4 w_0_searcher_table_rules h_0_searcher_table_lies h_0_searcher_table_tops h_0_searcher_table_list T_0_searcher_table), (h_0_searcher_table_lies, eI cI 16 (T_0_searcher_table 1)), (h_0_searcher_table_tops, eI cI 10 (T_0_searcher_table 2)), (h_0_searcher_table_list, eI cI 160 (T_0_searcher_table 3)), (h_0_searcher_origin, oX4 w_0_searcher_origin_rules h_0_searcher_origin_lies h_0_searcher_origin_tops h_0_searcher_origin_list T_0_searcher_origin), (h_0_searcher_origin_lies, eI cI 16 (T_0_searcher_origin 1)), (h_0_searcher_origin_tops, eI cI 10 (T_0_searcher_origin 2)), (h_0_searcher_origin_list, eI cI 160 (T_0_searcher_origin 3)), (h_0_searcher_shelf, oX3 h_0_searcher_shelf_lows h_0_searcher_shelf_highs h_0_searcher_shelf_places), (h_0_searcher_shelf_lows, eJ cJ 401 (S_0_searcher_shelf 0)), (h_0_searcher_shelf_highs, eJ cJ 401 (S_0_searcher_shelf 1)), (h_0_searcher_shelf_places, eJ cJ 401 (S_0_searcher_shelf 2)), (h_0_nextRules, oX1 r_0_nextRules), (h_0_tried, oX0 h_0_tried_row h_0_tried_taken), (h_0_tried_row, eI cI 16 (D_0_triedu4 0)), (h_0_tried_taken, eI cI 16 (D_0_triedu4 1))]) hCF hK (c_X0_draw l D cI cJ h_0_tried h_0_tried_row h_0_tried_taken D_0_tried v1 (v2 + v7) x2 D_0_triedu4 hc5) (cwV 3 hts (TBL_V mw_97 mw_98 mw_99 mw_29 mw_100) rfl rfl rfl pmX0_draw ⟨Nat.le_of_ble_eq_true rfl, Nat.le_of_ble_eq_true rfl⟩) hS hA [1, 2, 3] [0, 4, 5, 6, 7, 8, 9, 10, 11, 12, 13, 14, 15, 16, 17, 18, 19, 20] rfl rfl rfl rfl (by decide) rfl rfl rfl hl.1 rfl (Nat.le_of_ble_eq_true rfl) ⟨Nat.zero_le _, Nat.zero_le _⟩ dX5_odds_92 rfl (fun H locs hS => ?_)
      refine lv_aload_n hx hb dX5_odds_95 rfl (lv_at hl 0 rfl) ?_
      refine r_get hx hb hts inX5 hown hK hS 0 4 rfl rfl (by decide) q3 rfl dX5_odds_96 ?_
      refine r_get hx hb hts inX2 hown hK hS 1 0 rfl rfl (by decide) q4 rfl dX5_odds_99 ?_
      refine lv_aload_n hx hb dX5_odds_102 rfl (lv_at hl 0 rfl) ?_
      refine r_get hx hb hts inX5 hown hK hS 0 0 rfl rfl (by decide) q2 rfl dX5_odds_103 ?_
      refine lv_aload_n hx hb dX5_odds_106 rfl (lv_at hl 0 rfl) ?_
      refine r_get hx hb hts inX5 hown hK hS 0 6 rfl rfl (by decide) q0 rfl dX5_odds_107 ?_
      replace hF := cal1_e hF
      obtain ⟨T_0_searcher_tableu6, hc7, hF⟩ := hF
      refine kV_v (As := [.ref h_0_nextRules, .ref h_0_tried]) (rest := []) (wr := [(h_0, oX5 h_0_nextRules g_0_rules g_0_now g_0_past h_0_searcher g_0_dealt h_0_tried P_0), (h_0_searcher, oX2 h_0_searcher_table h_0_searcher_origin h_0_searcher_shelf h_0_searcher_steps h_0_searcher_newest h_0_searcher_older Q_0_searcher), (h_0_searcher_steps, eI cI 401 (Q_0_searcher 1)), (h_0_searcher_newest, eI cI 256 (Q_0_searcher 2)), (h_0_searcher_older, eI cI 401 (Q_0_searcher 3)), (h_0_searcher_origin, oX4 w_0_searcher_origin_rules h_0_searcher_origin_lies h_0_searcher_origin_tops h_0_searcher_origin_list T_0_searcher_origin), (h_0_searcher_origin_lies, eI cI 16 (T_0_searcher_origin 1)), (h_0_searcher_origin_tops, eI cI 10 (T_0_searcher_origin 2)), (h_0_searcher_origin_list, eI cI 160 (T_0_searcher_origin 3)), (h_0_searcher_shelf, oX3 h_0_searcher_shelf_lows h_0_searcher_shelf_highs h_0_searcher_shelf_places), (h_0_searcher_shelf_lows, eJ cJ 401 (S_0_searcher_shelf 0)), (h_0_searcher_shelf_highs, eJ cJ 401 (S_0_searcher_shelf 1)), (h_0_searcher_shelf_places, eJ cJ 401 (S_0_searcher_shelf 2))]) (w2 := [(h_0, oX5 h_0_nextRules g_0_rules g_0_now g_0_past h_0_searcher g_0_dealt h_0_tried P_0), (h_0_searcher, oX2 h_0_searcher_table h_0_searcher_origin h_0_searcher_shelf h_0_searcher_steps h_0_searcher_newest h_0_searcher_older Q_0_searcher), (h_0_searcher_steps, eI cI 401 (Q_0_searcher 1)), (h_0_searcher_newest, eI cI 256 (Q_0_searcher 2)), (h_0_searcher_older, eI cI 401 (Q_0_searcher 3)), (h_0_searcher_origin, oX4 w_0_searcher_origin_rules h_0_searcher_origin_lies h_0_searcher_origin_tops h_0_searcher_origin_list T_0_searcher_origin), (h_0_searcher_origin_lies, eI cI 16 (T_0_searcher_origin 1)), (h_0_searcher_origin_tops, eI cI 10 (T_0_searcher_origin 2)), (h_0_searcher_origin_list, eI cI 160 (T_0_searcher_origin 3)), (h_0_searcher_shelf, oX3 h_0_searcher_shelf_lows h_0_searcher_shelf_highs h_0_searcher_shelf_places), (h_0_searcher_shelf_lows, eJ cJ 401 (S_0_searcher_shelf 0)), (h_0_searcher_shelf_highs, eJ cJ 401 (S_0_searcher_shelf 1)), (h_0_searcher_shelf_places, eJ cJ 401 (S_0_searcher_shelf 2)), (h_0_searcher_table, oX4 h_0_nextRules h_0_searcher_table_lies h_0_searcher_table_tops h_0_searcher_table_list T_0_searcher_tableu6), (h_0_searcher_table_lies, eI cI 16 (T_0_searcher_tableu6 1)), (h_0_searcher_table_tops, eI cI 10 (T_0_searcher_tableu6 2)), (h_0_searcher_table_list, eI cI 160 (T_0_searcher_tableu6 3)), (h_0_nextRules, oX1 r_0_nextRules), (h_0_tried, oX0 h_0_tried_row h_0_tried_taken), (h_0_tried_row, eI cI 16 (D_0_triedu4 0)), (h_0_tried_taken, eI cI 16 (D_0_triedu4 1))]) hCF hK (c_X4_lay l D cI cJ h_0_searcher_table h_0_searcher_table_lies h_0_searcher_table_tops h_0_searcher_table_list h_0_nextRules h_0_tried h_0_tried_row h_0_tried_taken w_0_searcher_table_rules r_0_nextRules D_0_triedu4 T_0_searcher_table T_0_searcher_tableu6 hc7) (cwV 2 hts (TBL_V mw_117 mw_118 mw_119 mw_17 mw_120) rfl rfl rfl pmX4_lay ⟨Nat.le_of_ble_eq_true rfl, Nat.le_of_ble_eq_true rfl⟩) hS hA [5, 6, 7, 8, 17, 18, 19, 20] [0, 1, 2, 3, 4, 9, 10, 11, 12, 13, 14, 15, 16] rfl rfl rfl rfl (by decide) rfl rfl rfl hl.1 rfl (Nat.le_of_ble_eq_true rfl) ⟨Nat.zero_le _, Nat.zero_le _⟩ dX5_odds_110 rfl (fun H locs hS => ?_)
      refine lv_aload_n hx hb dX5_odds_113 rfl (lv_at hl 0 rfl) ?_
      refine r_get hx hb hts inX5 hown hK hS 0 4 rfl rfl (by decide) q3 rfl dX5_odds_114 ?_
      refine lv_iload hx hb dX5_odds_117 (lv_at hl 4 rfl) ?_
      replace hF := cal5_e hF
      obtain ⟨x8, Q_0_searcheru9, T_0_searcher_originu10, T_0_searcher_tableu11, S_0_searcher_shelfu12, hc13, hF⟩ := hF
      refine kV_i (As := [.int v4]) (rest := []) (wr := [(h_0, oX5 h_0_nextRules g_0_rules g_0_now g_0_past h_0_searcher g_0_dealt h_0_tried P_0), (h_0_tried, oX0 h_0_tried_row h_0_tried_taken), (h_0_tried_row, eI cI 16 (D_0_triedu4 0)), (h_0_tried_taken, eI cI 16 (D_0_triedu4 1))]) (w2 := [(h_0, oX5 h_0_nextRules g_0_rules g_0_now g_0_past h_0_searcher g_0_dealt h_0_tried P_0), (h_0_tried, oX0 h_0_tried_row h_0_tried_taken), (h_0_tried_row, eI cI 16 (D_0_triedu4 0)), (h_0_tried_taken, eI cI 16 (D_0_triedu4 1)), (h_0_searcher, oX2 h_0_searcher_table h_0_searcher_origin h_0_searcher_shelf h_0_searcher_steps h_0_searcher_newest h_0_searcher_older Q_0_searcheru9), (h_0_searcher_steps, eI cI 401 (Q_0_searcheru9 1)), (h_0_searcher_newest, eI cI 256 (Q_0_searcheru9 2)), (h_0_searcher_older, eI cI 401 (Q_0_searcheru9 3)), (h_0_searcher_origin, oX4 h_0_nextRules h_0_searcher_origin_lies h_0_searcher_origin_tops h_0_searcher_origin_list T_0_searcher_originu10), (h_0_searcher_origin_lies, eI cI 16 (T_0_searcher_originu10 1)), (h_0_searcher_origin_tops, eI cI 10 (T_0_searcher_originu10 2)), (h_0_searcher_origin_list, eI cI 160 (T_0_searcher_originu10 3)), (h_0_searcher_table, oX4 h_0_nextRules h_0_searcher_table_lies h_0_searcher_table_tops h_0_searcher_table_list T_0_searcher_tableu11), (h_0_searcher_table_lies, eI cI 16 (T_0_searcher_tableu11 1)), (h_0_searcher_table_tops, eI cI 10 (T_0_searcher_tableu11 2)), (h_0_searcher_table_list, eI cI 160 (T_0_searcher_tableu11 3)), (h_0_searcher_shelf, oX3 h_0_searcher_shelf_lows h_0_searcher_shelf_highs h_0_searcher_shelf_places), (h_0_searcher_shelf_lows, eJ cJ 401 (S_0_searcher_shelfu12 0)), (h_0_searcher_shelf_highs, eJ cJ 401 (S_0_searcher_shelfu12 1)), (h_0_searcher_shelf_places, eJ cJ 401 (S_0_searcher_shelfu12 2)), (h_0_nextRules, oX1 r_0_nextRules)]) hCF hK (c_X2_run l D cI cJ h_0_searcher h_0_searcher_steps h_0_searcher_newest h_0_searcher_older h_0_searcher_origin h_0_searcher_origin_lies h_0_searcher_origin_tops h_0_searcher_origin_list h_0_searcher_table h_0_searcher_table_lies h_0_searcher_table_tops h_0_searcher_table_list h_0_searcher_shelf h_0_searcher_shelf_lows h_0_searcher_shelf_highs h_0_searcher_shelf_places h_0_nextRules w_0_searcher_origin_rules r_0_nextRules Q_0_searcher T_0_searcher_origin T_0_searcher_tableu6 S_0_searcher_shelf v4 x8 Q_0_searcheru9 T_0_searcher_originu10 T_0_searcher_tableu11 S_0_searcher_shelfu12 hc13) (cwV 1 hts (TBL_V mw_416 mw_417 mw_418 mw_25 mw_419) rfl rfl rfl pmX2_run ⟨Nat.le_of_ble_eq_true rfl, Nat.le_of_ble_eq_true rfl⟩) hS hA [1, 2, 3, 4, 5, 6, 7, 8, 13, 14, 15, 16, 9, 10, 11, 12, 17] [0, 18, 19, 20] rfl rfl rfl rfl (by decide) rfl rfl rfl hl.1 rfl (Nat.le_of_ble_eq_true rfl) ⟨Nat.zero_le _, Nat.zero_le _⟩ dX5_odds_119 rfl (fun H locs hS => ?_)
      refine lv_istore (lv' := [(8, .int x8), (0, .ref h_0), (1, .int v1), (2, .int v2), (3, .int v3), (4, .int v4), (5, .int v5), (6, .int v6), (7, .int v7)]) hx hb dX5_odds_122 hl (by decide) rfl (fun ls hl => ?_)
      refine lv_iload hx hb dX5_odds_124 (lv_at hl 0 rfl) ?_
      refine lv_if_lt (tgt := 135) hx hb dX5_odds_126 (by decide) (fun c_14 => ?_) (fun c_14 => ?_)
      · replace hF := ifp hF c_14
        refine lv_iload hx hb dX5_odds_135 (lv_at hl 0 rfl) ?_
        refine lv_iconst (v := (-1)) hx hb dX5_odds_137 (by decide) ?_
        refine lv_icmp_ne (tgt := 144) hx hb dX5_odds_138 (by decide) (fun c_15 => ?_) (fun c_15 => ?_)
        · replace hF := ifn hF c_15
          refine lv_iinc (v := v7 + (nI 1)) (lv' := [(7, .int (v7 + (nI 1))), (8, .int x8), (0, .ref h_0), (1, .int v1), (2, .int v2), (3, .int v3), (4, .int v4), (5, .int v5), (6, .int v6)]) hx hb dX5_odds_144 hl (k := 8) rfl rfl (by decide) rfl (fun ls hl => ?_)
          refine lv_goto (tgt := 70) hx hb dX5_odds_147 (by decide) ?_
          exact hK70 D_0_triedu4 Q_0_searcheru9 T_0_searcher_tableu11 T_0_searcher_originu10 S_0_searcher_shelfu12 v1 v2 v3 v4 v5 v6 (v7 + (nI 1)) h_0_nextRules h_0_nextRules _ _ _ (hS.sub [0, 20, 1, 2, 3, 4, 5, 6, 7, 12, 13, 14, 15, 8, 9, 10, 11, 16, 17, 18, 19] rfl rfl) (lv_sub hl [2, 3, 4, 5, 6, 7, 8, 0] rfl) hF
        · replace hF := ifp hF c_15
          refine lv_iinc (v := v6 + (nI 1)) (lv' := [(6, .int (v6 + (nI 1))), (8, .int x8), (0, .ref h_0), (1, .int v1), (2, .int v2), (3, .int v3), (4, .int v4), (5, .int v5), (7, .int v7)]) hx hb dX5_odds_141 hl (k := 7) rfl rfl (by decide) rfl (fun ls hl => ?_)
          refine lv_iinc (v := v7 + (nI 1)) (lv' := [(7, .int (v7 + (nI 1))), (6, .int (v6 + (nI 1))), (8, .int x8), (0, .ref h_0), (1, .int v1), (2, .int v2), (3, .int v3), (4, .int v4), (5, .int v5)]) hx hb dX5_odds_144 hl (k := 8) rfl rfl (by decide) rfl (fun ls hl => ?_)
          refine lv_goto (tgt := 70) hx hb dX5_odds_147 (by decide) ?_
          exact hK70 D_0_triedu4 Q_0_searcheru9 T_0_searcher_tableu11 T_0_searcher_originu10 S_0_searcher_shelfu12 v1 v2 v3 v4 v5 (v6 + (nI 1)) (v7 + (nI 1)) h_0_nextRules h_0_nextRules _ _ _ (hS.sub [0, 20, 1, 2, 3, 4, 5, 6, 7, 12, 13, 14, 15, 8, 9, 10, 11, 16, 17, 18, 19] rfl rfl) (lv_sub hl [3, 4, 5, 6, 7, 8, 1, 0] rfl) hF
      · replace hF := ifn hF c_14
        refine lv_iinc (v := v5 + (nI 1)) (lv' := [(5, .int (v5 + (nI 1))), (8, .int x8), (0, .ref h_0), (1, .int v1), (2, .int v2), (3, .int v3), (4, .int v4), (6, .int v6), (7, .int v7)]) hx hb dX5_odds_129 hl (k := 6) rfl rfl (by decide) rfl (fun ls hl => ?_)
        refine lv_goto (tgt := 144) hx hb dX5_odds_132 (by decide) ?_
        refine lv_iinc (v := v7 + (nI 1)) (lv' := [(7, .int (v7 + (nI 1))), (5, .int (v5 + (nI 1))), (8, .int x8), (0, .ref h_0), (1, .int v1), (2, .int v2), (3, .int v3), (4, .int v4), (6, .int v6)]) hx hb dX5_odds_144 hl (k := 8) rfl rfl (by decide) rfl (fun ls hl => ?_)
        refine lv_goto (tgt := 70) hx hb dX5_odds_147 (by decide) ?_
        exact hK70 D_0_triedu4 Q_0_searcheru9 T_0_searcher_tableu11 T_0_searcher_originu10 S_0_searcher_shelfu12 v1 v2 v3 v4 (v5 + (nI 1)) v6 (v7 + (nI 1)) h_0_nextRules h_0_nextRules _ _ _ (hS.sub [0, 20, 1, 2, 3, 4, 5, 6, 7, 12, 13, 14, 15, 8, 9, 10, 11, 16, 17, 18, 19] rfl rfl) (lv_sub hl [3, 4, 5, 6, 7, 1, 8, 0] rfl) hF
  have L70 : ∀  (n : Nat) (D_0_tried : Nat → Nat → Int32) (Q_0_searcher : Nat → Nat → Int32) (T_0_searcher_table : Nat → Nat → Int32) (T_0_searcher_origin : Nat → Nat → Int32) (S_0_searcher_shelf : Nat → Nat → Int64) (v1 : Int32) (v2 : Int32) (v3 : Int32) (v4 : Int32) (v5 : Int32) (v6 : Int32) (v7 : Int32) (w_0_searcher_origin_rules : Nat) (w_0_searcher_table_rules : Nat) (H : Heap) (locs : List Loc) (ls : Array Slot), HS D A H0 [(h_0, oX5 h_0_nextRules g_0_rules g_0_now g_0_past h_0_searcher g_0_dealt h_0_tried P_0), (h_0_nextRules, oX1 r_0_nextRules), (h_0_tried, oX0 h_0_tried_row h_0_tried_taken), (h_0_tried_row, eI cI 16 (D_0_tried 0)), (h_0_tried_taken, eI cI 16 (D_0_tried 1)), (h_0_searcher, oX2 h_0_searcher_table h_0_searcher_origin h_0_searcher_shelf h_0_searcher_steps h_0_searcher_newest h_0_searcher_older Q_0_searcher), (h_0_searcher_steps, eI cI 401 (Q_0_searcher 1)), (h_0_searcher_newest, eI cI 256 (Q_0_searcher 2)), (h_0_searcher_older, eI cI 401 (Q_0_searcher 3)), (h_0_searcher_table, oX4 w_0_searcher_table_rules h_0_searcher_table_lies h_0_searcher_table_tops h_0_searcher_table_list T_0_searcher_table), (h_0_searcher_table_lies, eI cI 16 (T_0_searcher_table 1)), (h_0_searcher_table_tops, eI cI 10 (T_0_searcher_table 2)), (h_0_searcher_table_list, eI cI 160 (T_0_searcher_table 3)), (h_0_searcher_origin, oX4 w_0_searcher_origin_rules h_0_searcher_origin_lies h_0_searcher_origin_tops h_0_searcher_origin_list T_0_searcher_origin), (h_0_searcher_origin_lies, eI cI 16 (T_0_searcher_origin 1)), (h_0_searcher_origin_tops, eI cI 10 (T_0_searcher_origin 2)), (h_0_searcher_origin_list, eI cI 160 (T_0_searcher_origin 3)), (h_0_searcher_shelf, oX3 h_0_searcher_shelf_lows h_0_searcher_shelf_highs h_0_searcher_shelf_places), (h_0_searcher_shelf_lows, eJ cJ 401 (S_0_searcher_shelf 0)), (h_0_searcher_shelf_highs, eJ cJ 401 (S_0_searcher_shelf 1)), (h_0_searcher_shelf_places, eJ cJ 401 (S_0_searcher_shelf 2))] H locs → lv_has ls 9 [(0, .ref h_0), (1, .int v1), (2, .int v2), (3, .int v3), (4, .int v4), (5, .int v5), (6, .int v6), (7, .int v7)] → F_X5_odds_L70 P_0 r_0_nextRules  n D_0_tried Q_0_searcher T_0_searcher_table T_0_searcher_origin S_0_searcher_shelf v1 v2 v3 v4 v5 v6 v7 = some (th, rv, r_D_0_tried, r_Q_0_searcher, r_T_0_searcher_table, r_T_0_searcher_origin, r_S_0_searcher_shelf) → W p l e ({ frames := 6, cells := 1, slots := 6, locals := 140 } : Room) s m args below meth c H locs 0 0 Q (F0 m 70 ls []) := by
    intro  n
    induction n with
    | zero => intro D_0_tried Q_0_searcher T_0_searcher_table T_0_searcher_origin S_0_searcher_shelf v1 v2 v3 v4 v5 v6 v7 w_0_searcher_origin_rules w_0_searcher_table_rules H locs ls hS hl hF; exact nomatch (show (none : Option (Nat × Int32 × (Nat → Nat → Int32) × (Nat → Nat → Int32) × (Nat → Nat → Int32) × (Nat → Nat → Int32) × (Nat → Nat → Int64))) = some _ from hF)
    | succ n ih => intro D_0_tried Q_0_searcher T_0_searcher_table T_0_searcher_origin S_0_searcher_shelf v1 v2 v3 v4 v5 v6 v7 w_0_searcher_origin_rules w_0_searcher_table_rules H locs ls hS hl hF; exact S70  _ ih D_0_tried Q_0_searcher T_0_searcher_table T_0_searcher_origin S_0_searcher_shelf v1 v2 v3 v4 v5 v6 v7 w_0_searcher_origin_rules w_0_searcher_table_rules H locs ls hS hl hF
  unfold F_X5_odds at hF
  refine lv_iload_n hx hb dX5_odds_0 rfl (lv_at hl 1 rfl) ?_
  refine lv_iconst (v := (nI 0)) hx hb dX5_odds_1 (by decide) ?_
  refine lv_iconst (v := (nI 1)) hx hb dX5_odds_2 (by decide) ?_
  replace hF := cal1_e hF
  obtain ⟨x16, hc17, hF⟩ := hF
  refine kS_i (As := [.int v1, .int (nI 0), .int (nI 1)]) (rest := []) (wr := [(h_0, oX5 h_0_nextRules g_0_rules g_0_now g_0_past h_0_searcher g_0_dealt h_0_tried P_0), (h_0_nextRules, oX1 r_0_nextRules), (h_0_tried, oX0 h_0_tried_row h_0_tried_taken), (h_0_tried_row, eI cI 16 (D_0_tried 0)), (h_0_tried_taken, eI cI 16 (D_0_tried 1)), (h_0_searcher, oX2 h_0_searcher_table h_0_searcher_origin h_0_searcher_shelf h_0_searcher_steps h_0_searcher_newest h_0_searcher_older Q_0_searcher), (h_0_searcher_steps, eI cI 401 (Q_0_searcher 1)), (h_0_searcher_newest, eI cI 256 (Q_0_searcher 2)), (h_0_searcher_older, eI cI 401 (Q_0_searcher 3)), (h_0_searcher_table, oX4 g_0_searcher_table_rules h_0_searcher_table_lies h_0_searcher_table_tops h_0_searcher_table_list T_0_searcher_table), (h_0_searcher_table_lies, eI cI 16 (T_0_searcher_table 1)), (h_0_searcher_table_tops, eI cI 10 (T_0_searcher_table 2)), (h_0_searcher_table_list, eI cI 160 (T_0_searcher_table 3)), (h_0_searcher_origin, oX4 g_0_searcher_origin_rules h_0_searcher_origin_lies h_0_searcher_origin_tops h_0_searcher_origin_list T_0_searcher_origin), (h_0_searcher_origin_lies, eI cI 16 (T_0_searcher_origin 1)), (h_0_searcher_origin_tops, eI cI 10 (T_0_searcher_origin 2)), (h_0_searcher_origin_list, eI cI 160 (T_0_searcher_origin 3)), (h_0_searcher_shelf, oX3 h_0_searcher_shelf_lows h_0_searcher_shelf_highs h_0_searcher_shelf_places), (h_0_searcher_shelf_lows, eJ cJ 401 (S_0_searcher_shelf 0)), (h_0_searcher_shelf_highs, eJ cJ 401 (S_0_searcher_shelf 1)), (h_0_searcher_shelf_places, eJ cJ 401 (S_0_searcher_shelf 2))]) (w2 := [(h_0, oX5 h_0_nextRules g_0_rules g_0_now g_0_past h_0_searcher g_0_dealt h_0_tried P_0), (h_0_nextRules, oX1 r_0_nextRules), (h_0_tried, oX0 h_0_tried_row h_0_tried_taken), (h_0_tried_row, eI cI 16 (D_0_tried 0)), (h_0_tried_taken, eI cI 16 (D_0_tried 1)), (h_0_searcher, oX2 h_0_searcher_table h_0_searcher_origin h_0_searcher_shelf h_0_searcher_steps h_0_searcher_newest h_0_searcher_older Q_0_searcher), (h_0_searcher_steps, eI cI 401 (Q_0_searcher 1)), (h_0_searcher_newest, eI cI 256 (Q_0_searcher 2)), (h_0_searcher_older, eI cI 401 (Q_0_searcher 3)), (h_0_searcher_table, oX4 g_0_searcher_table_rules h_0_searcher_table_lies h_0_searcher_table_tops h_0_searcher_table_list T_0_searcher_table), (h_0_searcher_table_lies, eI cI 16 (T_0_searcher_table 1)), (h_0_searcher_table_tops, eI cI 10 (T_0_searcher_table 2)), (h_0_searcher_table_list, eI cI 160 (T_0_searcher_table 3)), (h_0_searcher_origin, oX4 g_0_searcher_origin_rules h_0_searcher_origin_lies h_0_searcher_origin_tops h_0_searcher_origin_list T_0_searcher_origin), (h_0_searcher_origin_lies, eI cI 16 (T_0_searcher_origin 1)), (h_0_searcher_origin_tops, eI cI 10 (T_0_searcher_origin 2)), (h_0_searcher_origin_list, eI cI 160 (T_0_searcher_origin 3)), (h_0_searcher_shelf, oX3 h_0_searcher_shelf_lows h_0_searcher_shelf_highs h_0_searcher_shelf_places), (h_0_searcher_shelf_lows, eJ cJ 401 (S_0_searcher_shelf 0)), (h_0_searcher_shelf_highs, eJ cJ 401 (S_0_searcher_shelf 1)), (h_0_searcher_shelf_places, eJ cJ 401 (S_0_searcher_shelf 2))]) hCF hK (c_X5_isWithin l D cI cJ v1 (nI 0) (nI 1) x16 hc17) (va_cwS 3 hts (TBL_S mw_174 mw_175 mw_2 mw_176) rfl rfl rfl pmX5_isWithin.2 ⟨Nat.le_of_ble_eq_true rfl, Nat.le_of_ble_eq_true rfl⟩) hS hA [] [0, 1, 2, 3, 4, 5, 6, 7, 8, 9, 10, 11, 12, 13, 14, 15, 16, 17, 18, 19, 20] rfl rfl rfl rfl (by decide) rfl hl.1 rfl (Nat.le_of_ble_eq_true rfl) ⟨Nat.zero_le _, Nat.zero_le _⟩ dX5_odds_3 rfl (fun H locs hS => ?_)
  refine lv_if_eq (tgt := 19) hx hb dX5_odds_6 (by decide) (fun c_18 => ?_) (fun c_18 => ?_)
  · replace hF := ifp hF c_18
    have e9_0 := Option.some.inj hF
    obtain ⟨f9_0, e9_1⟩ := Prod.mk.inj e9_0
    obtain ⟨f9_1, e9_2⟩ := Prod.mk.inj e9_1
    obtain ⟨f9_2, e9_3⟩ := Prod.mk.inj e9_2
    obtain ⟨f9_3, e9_4⟩ := Prod.mk.inj e9_3
    obtain ⟨f9_4, e9_5⟩ := Prod.mk.inj e9_4
    obtain ⟨f9_5, e9_6⟩ := Prod.mk.inj e9_5
    subst f9_0
    subst f9_1
    subst f9_2
    subst f9_3
    subst f9_4
    subst f9_5
    subst e9_6
    exact kthr 1 239 _ _ _ _ _ rfl (by decide) (List.mem_of_getElem? (i := 16) rfl) hS hl.1 dX5_odds_19 dX5_odds_22 dX5_odds_23 dX5_odds_25 dX5_odds_28
  · replace hF := ifn hF c_18
    refine lv_iload_n hx hb dX5_odds_9 rfl (lv_at hl 2 rfl) ?_
    refine lv_iconst (v := (nI 0)) hx hb dX5_odds_10 (by decide) ?_
    refine lv_ldc (v := (nI 1000000)) hx hb hown q6 dX5_odds_11 ?_
    replace hF := cal1_e hF
    obtain ⟨x19, hc20, hF⟩ := hF
    refine kS_i (As := [.int v2, .int (nI 0), .int (nI 1000000)]) (rest := []) (wr := [(h_0, oX5 h_0_nextRules g_0_rules g_0_now g_0_past h_0_searcher g_0_dealt h_0_tried P_0), (h_0_nextRules, oX1 r_0_nextRules), (h_0_tried, oX0 h_0_tried_row h_0_tried_taken), (h_0_tried_row, eI cI 16 (D_0_tried 0)), (h_0_tried_taken, eI cI 16 (D_0_tried 1)), (h_0_searcher, oX2 h_0_searcher_table h_0_searcher_origin h_0_searcher_shelf h_0_searcher_steps h_0_searcher_newest h_0_searcher_older Q_0_searcher), (h_0_searcher_steps, eI cI 401 (Q_0_searcher 1)), (h_0_searcher_newest, eI cI 256 (Q_0_searcher 2)), (h_0_searcher_older, eI cI 401 (Q_0_searcher 3)), (h_0_searcher_table, oX4 g_0_searcher_table_rules h_0_searcher_table_lies h_0_searcher_table_tops h_0_searcher_table_list T_0_searcher_table), (h_0_searcher_table_lies, eI cI 16 (T_0_searcher_table 1)), (h_0_searcher_table_tops, eI cI 10 (T_0_searcher_table 2)), (h_0_searcher_table_list, eI cI 160 (T_0_searcher_table 3)), (h_0_searcher_origin, oX4 g_0_searcher_origin_rules h_0_searcher_origin_lies h_0_searcher_origin_tops h_0_searcher_origin_list T_0_searcher_origin), (h_0_searcher_origin_lies, eI cI 16 (T_0_searcher_origin 1)), (h_0_searcher_origin_tops, eI cI 10 (T_0_searcher_origin 2)), (h_0_searcher_origin_list, eI cI 160 (T_0_searcher_origin 3)), (h_0_searcher_shelf, oX3 h_0_searcher_shelf_lows h_0_searcher_shelf_highs h_0_searcher_shelf_places), (h_0_searcher_shelf_lows, eJ cJ 401 (S_0_searcher_shelf 0)), (h_0_searcher_shelf_highs, eJ cJ 401 (S_0_searcher_shelf 1)), (h_0_searcher_shelf_places, eJ cJ 401 (S_0_searcher_shelf 2))]) (w2 := [(h_0, oX5 h_0_nextRules g_0_rules g_0_now g_0_past h_0_searcher g_0_dealt h_0_tried P_0), (h_0_nextRules, oX1 r_0_nextRules), (h_0_tried, oX0 h_0_tried_row h_0_tried_taken), (h_0_tried_row, eI cI 16 (D_0_tried 0)), (h_0_tried_taken, eI cI 16 (D_0_tried 1)), (h_0_searcher, oX2 h_0_searcher_table h_0_searcher_origin h_0_searcher_shelf h_0_searcher_steps h_0_searcher_newest h_0_searcher_older Q_0_searcher), (h_0_searcher_steps, eI cI 401 (Q_0_searcher 1)), (h_0_searcher_newest, eI cI 256 (Q_0_searcher 2)), (h_0_searcher_older, eI cI 401 (Q_0_searcher 3)), (h_0_searcher_table, oX4 g_0_searcher_table_rules h_0_searcher_table_lies h_0_searcher_table_tops h_0_searcher_table_list T_0_searcher_table), (h_0_searcher_table_lies, eI cI 16 (T_0_searcher_table 1)), (h_0_searcher_table_tops, eI cI 10 (T_0_searcher_table 2)), (h_0_searcher_table_list, eI cI 160 (T_0_searcher_table 3)), (h_0_searcher_origin, oX4 g_0_searcher_origin_rules h_0_searcher_origin_lies h_0_searcher_origin_tops h_0_searcher_origin_list T_0_searcher_origin), (h_0_searcher_origin_lies, eI cI 16 (T_0_searcher_origin 1)), (h_0_searcher_origin_tops, eI cI 10 (T_0_searcher_origin 2)), (h_0_searcher_origin_list, eI cI 160 (T_0_searcher_origin 3)), (h_0_searcher_shelf, oX3 h_0_searcher_shelf_lows h_0_searcher_shelf_highs h_0_searcher_shelf_places), (h_0_searcher_shelf_lows, eJ cJ 401 (S_0_searcher_shelf 0)), (h_0_searcher_shelf_highs, eJ cJ 401 (S_0_searcher_shelf 1)), (h_0_searcher_shelf_places, eJ cJ 401 (S_0_searcher_shelf 2))]) hCF hK (c_X5_isWithin l D cI cJ v2 (nI 0) (nI 1000000) x19 hc20) (va_cwS 3 hts (TBL_S mw_174 mw_175 mw_2 mw_176) rfl rfl rfl pmX5_isWithin.2 ⟨Nat.le_of_ble_eq_true rfl, Nat.le_of_ble_eq_true rfl⟩) hS hA [] [0, 1, 2, 3, 4, 5, 6, 7, 8, 9, 10, 11, 12, 13, 14, 15, 16, 17, 18, 19, 20] rfl rfl rfl rfl (by decide) rfl hl.1 rfl (Nat.le_of_ble_eq_true rfl) ⟨Nat.zero_le _, Nat.zero_le _⟩ dX5_odds_13 rfl (fun H locs hS => ?_)
    refine lv_if_ne (tgt := 29) hx hb dX5_odds_16 (by decide) (fun c_21 => ?_) (fun c_21 => ?_)
    · replace hF := ifn hF c_21
      refine lv_iload_n hx hb dX5_odds_29 rfl (lv_at hl 3 rfl) ?_
      refine lv_iconst (v := (nI 1)) hx hb dX5_odds_30 (by decide) ?_
      refine lv_bipush (v := (nI 8)) hx hb dX5_odds_31 (by decide) ?_
      replace hF := cal1_e hF
      obtain ⟨x22, hc23, hF⟩ := hF
      refine kS_i (As := [.int v3, .int (nI 1), .int (nI 8)]) (rest := []) (wr := [(h_0, oX5 h_0_nextRules g_0_rules g_0_now g_0_past h_0_searcher g_0_dealt h_0_tried P_0), (h_0_nextRules, oX1 r_0_nextRules), (h_0_tried, oX0 h_0_tried_row h_0_tried_taken), (h_0_tried_row, eI cI 16 (D_0_tried 0)), (h_0_tried_taken, eI cI 16 (D_0_tried 1)), (h_0_searcher, oX2 h_0_searcher_table h_0_searcher_origin h_0_searcher_shelf h_0_searcher_steps h_0_searcher_newest h_0_searcher_older Q_0_searcher), (h_0_searcher_steps, eI cI 401 (Q_0_searcher 1)), (h_0_searcher_newest, eI cI 256 (Q_0_searcher 2)), (h_0_searcher_older, eI cI 401 (Q_0_searcher 3)), (h_0_searcher_table, oX4 g_0_searcher_table_rules h_0_searcher_table_lies h_0_searcher_table_tops h_0_searcher_table_list T_0_searcher_table), (h_0_searcher_table_lies, eI cI 16 (T_0_searcher_table 1)), (h_0_searcher_table_tops, eI cI 10 (T_0_searcher_table 2)), (h_0_searcher_table_list, eI cI 160 (T_0_searcher_table 3)), (h_0_searcher_origin, oX4 g_0_searcher_origin_rules h_0_searcher_origin_lies h_0_searcher_origin_tops h_0_searcher_origin_list T_0_searcher_origin), (h_0_searcher_origin_lies, eI cI 16 (T_0_searcher_origin 1)), (h_0_searcher_origin_tops, eI cI 10 (T_0_searcher_origin 2)), (h_0_searcher_origin_list, eI cI 160 (T_0_searcher_origin 3)), (h_0_searcher_shelf, oX3 h_0_searcher_shelf_lows h_0_searcher_shelf_highs h_0_searcher_shelf_places), (h_0_searcher_shelf_lows, eJ cJ 401 (S_0_searcher_shelf 0)), (h_0_searcher_shelf_highs, eJ cJ 401 (S_0_searcher_shelf 1)), (h_0_searcher_shelf_places, eJ cJ 401 (S_0_searcher_shelf 2))]) (w2 := [(h_0, oX5 h_0_nextRules g_0_rules g_0_now g_0_past h_0_searcher g_0_dealt h_0_tried P_0), (h_0_nextRules, oX1 r_0_nextRules), (h_0_tried, oX0 h_0_tried_row h_0_tried_taken), (h_0_tried_row, eI cI 16 (D_0_tried 0)), (h_0_tried_taken, eI cI 16 (D_0_tried 1)), (h_0_searcher, oX2 h_0_searcher_table h_0_searcher_origin h_0_searcher_shelf h_0_searcher_steps h_0_searcher_newest h_0_searcher_older Q_0_searcher), (h_0_searcher_steps, eI cI 401 (Q_0_searcher 1)), (h_0_searcher_newest, eI cI 256 (Q_0_searcher 2)), (h_0_searcher_older, eI cI 401 (Q_0_searcher 3)), (h_0_searcher_table, oX4 g_0_searcher_table_rules h_0_searcher_table_lies h_0_searcher_table_tops h_0_searcher_table_list T_0_searcher_table), (h_0_searcher_table_lies, eI cI 16 (T_0_searcher_table 1)), (h_0_searcher_table_tops, eI cI 10 (T_0_searcher_table 2)), (h_0_searcher_table_list, eI cI 160 (T_0_searcher_table 3)), (h_0_searcher_origin, oX4 g_0_searcher_origin_rules h_0_searcher_origin_lies h_0_searcher_origin_tops h_0_searcher_origin_list T_0_searcher_origin), (h_0_searcher_origin_lies, eI cI 16 (T_0_searcher_origin 1)), (h_0_searcher_origin_tops, eI cI 10 (T_0_searcher_origin 2)), (h_0_searcher_origin_list, eI cI 160 (T_0_searcher_origin 3)), (h_0_searcher_shelf, oX3 h_0_searcher_shelf_lows h_0_searcher_shelf_highs h_0_searcher_shelf_places), (h_0_searcher_shelf_lows, eJ cJ 401 (S_0_searcher_shelf 0)), (h_0_searcher_shelf_highs, eJ cJ 401 (S_0_searcher_shelf 1)), (h_0_searcher_shelf_places, eJ cJ 401 (S_0_searcher_shelf 2))]) hCF hK (c_X5_isWithin l D cI cJ v3 (nI 1) (nI 8) x22 hc23) (va_cwS 3 hts (TBL_S mw_174 mw_175 mw_2 mw_176) rfl rfl rfl pmX5_isWithin.2 ⟨Nat.le_of_ble_eq_true rfl, Nat.le_of_ble_eq_true rfl⟩) hS hA [] [0, 1, 2, 3, 4, 5, 6, 7, 8, 9, 10, 11, 12, 13, 14, 15, 16, 17, 18, 19, 20] rfl rfl rfl rfl (by decide) rfl hl.1 rfl (Nat.le_of_ble_eq_true rfl) ⟨Nat.zero_le _, Nat.zero_le _⟩ dX5_odds_33 rfl (fun H locs hS => ?_)
      refine lv_if_eq (tgt := 51) hx hb dX5_odds_36 (by decide) (fun c_24 => ?_) (fun c_24 => ?_)
      · replace hF := ifp hF c_24
        have e9_0 := Option.some.inj hF
        obtain ⟨f9_0, e9_1⟩ := Prod.mk.inj e9_0
        obtain ⟨f9_1, e9_2⟩ := Prod.mk.inj e9_1
        obtain ⟨f9_2, e9_3⟩ := Prod.mk.inj e9_2
        obtain ⟨f9_3, e9_4⟩ := Prod.mk.inj e9_3
        obtain ⟨f9_4, e9_5⟩ := Prod.mk.inj e9_4
        obtain ⟨f9_5, e9_6⟩ := Prod.mk.inj e9_5
        subst f9_0
        subst f9_1
        subst f9_2
        subst f9_3
        subst f9_4
        subst f9_5
        subst e9_6
        exact kthr 1 241 _ _ _ _ _ rfl (by decide) (List.mem_of_getElem? (i := 17) rfl) hS hl.1 dX5_odds_51 dX5_odds_54 dX5_odds_55 dX5_odds_57 dX5_odds_60
      · replace hF := ifn hF c_24
        refine lv_iload hx hb dX5_odds_39 (lv_at hl 4 rfl) ?_
        refine lv_iconst (v := (nI 1)) hx hb dX5_odds_41 (by decide) ?_
        refine lv_sipush (v := (nI 200)) hx hb dX5_odds_42 (by decide) ?_
        replace hF := cal1_e hF
        obtain ⟨x25, hc26, hF⟩ := hF
        refine kS_i (As := [.int v4, .int (nI 1), .int (nI 200)]) (rest := []) (wr := [(h_0, oX5 h_0_nextRules g_0_rules g_0_now g_0_past h_0_searcher g_0_dealt h_0_tried P_0), (h_0_nextRules, oX1 r_0_nextRules), (h_0_tried, oX0 h_0_tried_row h_0_tried_taken), (h_0_tried_row, eI cI 16 (D_0_tried 0)), (h_0_tried_taken, eI cI 16 (D_0_tried 1)), (h_0_searcher, oX2 h_0_searcher_table h_0_searcher_origin h_0_searcher_shelf h_0_searcher_steps h_0_searcher_newest h_0_searcher_older Q_0_searcher), (h_0_searcher_steps, eI cI 401 (Q_0_searcher 1)), (h_0_searcher_newest, eI cI 256 (Q_0_searcher 2)), (h_0_searcher_older, eI cI 401 (Q_0_searcher 3)), (h_0_searcher_table, oX4 g_0_searcher_table_rules h_0_searcher_table_lies h_0_searcher_table_tops h_0_searcher_table_list T_0_searcher_table), (h_0_searcher_table_lies, eI cI 16 (T_0_searcher_table 1)), (h_0_searcher_table_tops, eI cI 10 (T_0_searcher_table 2)), (h_0_searcher_table_list, eI cI 160 (T_0_searcher_table 3)), (h_0_searcher_origin, oX4 g_0_searcher_origin_rules h_0_searcher_origin_lies h_0_searcher_origin_tops h_0_searcher_origin_list T_0_searcher_origin), (h_0_searcher_origin_lies, eI cI 16 (T_0_searcher_origin 1)), (h_0_searcher_origin_tops, eI cI 10 (T_0_searcher_origin 2)), (h_0_searcher_origin_list, eI cI 160 (T_0_searcher_origin 3)), (h_0_searcher_shelf, oX3 h_0_searcher_shelf_lows h_0_searcher_shelf_highs h_0_searcher_shelf_places), (h_0_searcher_shelf_lows, eJ cJ 401 (S_0_searcher_shelf 0)), (h_0_searcher_shelf_highs, eJ cJ 401 (S_0_searcher_shelf 1)), (h_0_searcher_shelf_places, eJ cJ 401 (S_0_searcher_shelf 2))]) (w2 := [(h_0, oX5 h_0_nextRules g_0_rules g_0_now g_0_past h_0_searcher g_0_dealt h_0_tried P_0), (h_0_nextRules, oX1 r_0_nextRules), (h_0_tried, oX0 h_0_tried_row h_0_tried_taken), (h_0_tried_row, eI cI 16 (D_0_tried 0)), (h_0_tried_taken, eI cI 16 (D_0_tried 1)), (h_0_searcher, oX2 h_0_searcher_table h_0_searcher_origin h_0_searcher_shelf h_0_searcher_steps h_0_searcher_newest h_0_searcher_older Q_0_searcher), (h_0_searcher_steps, eI cI 401 (Q_0_searcher 1)), (h_0_searcher_newest, eI cI 256 (Q_0_searcher 2)), (h_0_searcher_older, eI cI 401 (Q_0_searcher 3)), (h_0_searcher_table, oX4 g_0_searcher_table_rules h_0_searcher_table_lies h_0_searcher_table_tops h_0_searcher_table_list T_0_searcher_table), (h_0_searcher_table_lies, eI cI 16 (T_0_searcher_table 1)), (h_0_searcher_table_tops, eI cI 10 (T_0_searcher_table 2)), (h_0_searcher_table_list, eI cI 160 (T_0_searcher_table 3)), (h_0_searcher_origin, oX4 g_0_searcher_origin_rules h_0_searcher_origin_lies h_0_searcher_origin_tops h_0_searcher_origin_list T_0_searcher_origin), (h_0_searcher_origin_lies, eI cI 16 (T_0_searcher_origin 1)), (h_0_searcher_origin_tops, eI cI 10 (T_0_searcher_origin 2)), (h_0_searcher_origin_list, eI cI 160 (T_0_searcher_origin 3)), (h_0_searcher_shelf, oX3 h_0_searcher_shelf_lows h_0_searcher_shelf_highs h_0_searcher_shelf_places), (h_0_searcher_shelf_lows, eJ cJ 401 (S_0_searcher_shelf 0)), (h_0_searcher_shelf_highs, eJ cJ 401 (S_0_searcher_shelf 1)), (h_0_searcher_shelf_places, eJ cJ 401 (S_0_searcher_shelf 2))]) hCF hK (c_X5_isWithin l D cI cJ v4 (nI 1) (nI 200) x25 hc26) (va_cwS 3 hts (TBL_S mw_174 mw_175 mw_2 mw_176) rfl rfl rfl pmX5_isWithin.2 ⟨Nat.le_of_ble_eq_true rfl, Nat.le_of_ble_eq_true rfl⟩) hS hA [] [0, 1, 2, 3, 4, 5, 6, 7, 8, 9, 10, 11, 12, 13, 14, 15, 16, 17, 18, 19, 20] rfl rfl rfl rfl (by decide) rfl hl.1 rfl (Nat.le_of_ble_eq_true rfl) ⟨Nat.zero_le _, Nat.zero_le _⟩ dX5_odds_45 rfl (fun H locs hS => ?_)
        refine lv_if_ne (tgt := 61) hx hb dX5_odds_48 (by decide) (fun c_27 => ?_) (fun c_27 => ?_)
        · replace hF := ifn hF c_27
          refine lv_iconst (v := (nI 0)) hx hb dX5_odds_61 (by decide) ?_
          refine lv_istore (lv' := [(5, .int (nI 0)), (0, .ref h_0), (1, .int v1), (2, .int v2), (3, .int v3), (4, .int v4)]) hx hb dX5_odds_62 hl (by decide) rfl (fun ls hl => ?_)
          refine lv_iconst (v := (nI 0)) hx hb dX5_odds_64 (by decide) ?_
          refine lv_istore (lv' := [(6, .int (nI 0)), (5, .int (nI 0)), (0, .ref h_0), (1, .int v1), (2, .int v2), (3, .int v3), (4, .int v4)]) hx hb dX5_odds_65 hl (by decide) rfl (fun ls hl => ?_)
          refine lv_iconst (v := (nI 0)) hx hb dX5_odds_67 (by decide) ?_
          refine lv_istore (lv' := [(7, .int (nI 0)), (6, .int (nI 0)), (5, .int (nI 0)), (0, .ref h_0), (1, .int v1), (2, .int v2), (3, .int v3), (4, .int v4)]) hx hb dX5_odds_68 hl (by decide) rfl (fun ls hl => ?_)
          exact L70 FU D_0_tried Q_0_searcher T_0_searcher_table T_0_searcher_origin S_0_searcher_shelf v1 v2 v3 v4 (nI 0) (nI 0) (nI 0) g_0_searcher_origin_rules g_0_searcher_table_rules _ _ _ hS (lv_sub hl [3, 4, 5, 6, 7, 2, 1, 0] rfl) hF
        · replace hF := ifp hF c_27
          have e9_0 := Option.some.inj hF
          obtain ⟨f9_0, e9_1⟩ := Prod.mk.inj e9_0
          obtain ⟨f9_1, e9_2⟩ := Prod.mk.inj e9_1
          obtain ⟨f9_2, e9_3⟩ := Prod.mk.inj e9_2
          obtain ⟨f9_3, e9_4⟩ := Prod.mk.inj e9_3
          obtain ⟨f9_4, e9_5⟩ := Prod.mk.inj e9_4
          obtain ⟨f9_5, e9_6⟩ := Prod.mk.inj e9_5
          subst f9_0
          subst f9_1
          subst f9_2
          subst f9_3
          subst f9_4
          subst f9_5
          subst e9_6
          exact kthr 1 241 _ _ _ _ _ rfl (by decide) (List.mem_of_getElem? (i := 17) rfl) hS hl.1 dX5_odds_51 dX5_odds_54 dX5_odds_55 dX5_odds_57 dX5_odds_60
    · replace hF := ifp hF c_21
      have e9_0 := Option.some.inj hF
      obtain ⟨f9_0, e9_1⟩ := Prod.mk.inj e9_0
      obtain ⟨f9_1, e9_2⟩ := Prod.mk.inj e9_1
      obtain ⟨f9_2, e9_3⟩ := Prod.mk.inj e9_2
      obtain ⟨f9_3, e9_4⟩ := Prod.mk.inj e9_3
      obtain ⟨f9_4, e9_5⟩ := Prod.mk.inj e9_4
      obtain ⟨f9_5, e9_6⟩ := Prod.mk.inj e9_5
      subst f9_0
      subst f9_1
      subst f9_2
      subst f9_3
      subst f9_4
      subst f9_5
      subst e9_6
      exact kthr 1 239 _ _ _ _ _ rfl (by decide) (List.mem_of_getElem? (i := 16) rfl) hS hl.1 dX5_odds_19 dX5_odds_22 dX5_odds_23 dX5_odds_25 dX5_odds_28
