set_option maxHeartbeats 4000000 in
set_option maxRecDepth 100000 in
theorem c_X4_topOf (l : Launch) (D : va_G) (cI cJ : ClassId) (h_0 h_0_lies h_0_tops h_0_list g_0_rules : Nat) (T_0 : Nat → Nat → Int32) (v1 : Int32) (rv : Int32) (hF : F_X4_topOf T_0 v1 = some rv) : CtI l D [(cI, .int), (cJ, .long)] yX4_topOf wtX4_topOf ({ frames := 0, cells := 0, slots := 0, locals := 0 } : Room) [.ref h_0, .int v1] [(h_0, oX4 g_0_rules h_0_lies h_0_tops h_0_list T_0), (h_0_lies, eI cI 16 (T_0 1)), (h_0_tops, eI cI 10 (T_0 2)), (h_0_list, eI cI 160 (T_0 3))] [(h_0, oX4 g_0_rules h_0_lies h_0_tops h_0_list T_0), (h_0_lies, eI cI 16 (T_0 1)), (h_0_tops, eI cI 10 (T_0 2)), (h_0_list, eI cI 160 (T_0 3))] rv := by
  refine CtI.of (cc := cX4_topOf) (maxL := 2) (by decide) rfl (Nat.le_of_ble_eq_true rfl) ?_
  intro p e s m args below meth c A H0 Q ls X hS hl kret
  have hCF := X.1
  obtain ⟨⟨hx, hb, hml, hown, hts⟩, hK, hA⟩ := X
  have hl : lv_has ls 2 [(0, .ref h_0), (1, .int v1)] := hl
  have q0 := hts (.fieldLink RX4 22 "Patiencery$Table" "tops" "[I") (List.mem_cons_of_mem _ mw_54)
  have inX4 : ∀ w ∈ u_ws RX4 TX4 7, w ∈ wtX4_topOf := fun w h => List.mem_cons_of_mem _ (inlX4 w h)
  unfold F_X4_topOf at hF
  refine lv_iload_n hx hb dX4_topOf_0 rfl (lv_at hl 1 rfl) ?_
  refine lv_if_lt (tgt := 19) hx hb dX4_topOf_1 (by decide) (fun c_1 => ?_) (fun c_1 => ?_)
  · replace hF := ifp hF c_1
    refine lv_iconst (v := (-1)) hx hb dX4_topOf_19 (by decide) ?_
    have e9_0 := Option.some.inj hF
    subst e9_0
    exact kret _ _ _ _ hS dX4_topOf_20
  · replace hF := ifn hF c_1
    refine lv_iload_n hx hb dX4_topOf_4 rfl (lv_at hl 1 rfl) ?_
    refine lv_bipush (v := (nI 10)) hx hb dX4_topOf_5 (by decide) ?_
    refine lv_icmp_ge (tgt := 19) hx hb dX4_topOf_7 (by decide) (fun c_2 => ?_) (fun c_2 => ?_)
    · replace hF := ifp hF c_2
      refine lv_iconst (v := (-1)) hx hb dX4_topOf_19 (by decide) ?_
      have e9_0 := Option.some.inj hF
      subst e9_0
      exact kret _ _ _ _ hS dX4_topOf_20
    · replace hF := ifn hF c_2
      refine lv_aload_n hx hb dX4_topOf_10 rfl (lv_at hl 0 rfl) ?_
      refine r_get hx hb hts inX4 hown hK hS 0 2 rfl rfl (by decide) q0 rfl dX4_topOf_11 ?_
      refine lv_iload_n hx hb dX4_topOf_14 rfl (lv_at hl 1 rfl) ?_
      replace hF := rdA_e hF
      obtain ⟨hi4, x3, ex3, hF⟩ := hF
      refine r_iald hx hb hK hS 2 rfl rfl hi4 dX4_topOf_15 ex3 ?_
      refine lv_goto (tgt := 20) hx hb dX4_topOf_16 (by decide) ?_
      have e9_0 := Option.some.inj hF
      subst e9_0
      exact kret _ _ _ _ hS dX4_topOf_20
set_option maxHeartbeats 4000000 in
set_option maxRecDepth 100000 in
theorem c_X4_isStockMove (l : Launch) (D : va_G) (cI cJ : ClassId) (h_0 h_0_lies h_0_tops h_0_list h_0_rules : Nat) (T_0 : Nat → Nat → Int32) (r_0_rules : Nat → Int32) (rv : Int32) (hF : F_X4_isStockMove T_0 r_0_rules = some rv) : CtI l D [(cI, .int), (cJ, .long)] yX4_isStockMove wtX4_isStockMove ({ frames := 1, cells := 0, slots := 0, locals := 21 } : Room) [.ref h_0] [(h_0, oX4 h_0_rules h_0_lies h_0_tops h_0_list T_0), (h_0_lies, eI cI 16 (T_0 1)), (h_0_tops, eI cI 10 (T_0 2)), (h_0_list, eI cI 160 (T_0 3)), (h_0_rules, oX1 r_0_rules)] [(h_0, oX4 h_0_rules h_0_lies h_0_tops h_0_list T_0), (h_0_lies, eI cI 16 (T_0 1)), (h_0_tops, eI cI 10 (T_0 2)), (h_0_list, eI cI 160 (T_0 3)), (h_0_rules, oX1 r_0_rules)] rv := by
  refine CtZ.of (cc := cX4_isStockMove) (maxL := 1) (by decide) rfl (Nat.le_of_ble_eq_true rfl) ?_
  intro p e s m args below meth c A H0 Q ls X hS hl kret
  have hCF := X.1
  obtain ⟨⟨hx, hb, hml, hown, hts⟩, hK, hA⟩ := X
  have hl : lv_has ls 1 [(0, .ref h_0)] := hl
  have q0 := hts (.fieldLink RX4 35 "Patiencery$Table" "turned" "I") (List.mem_cons_of_mem _ mw_58)
  have inX4 : ∀ w ∈ u_ws RX4 TX4 7, w ∈ wtX4_isStockMove := fun w h => List.mem_cons_of_mem _ (inlX4 w h)
  have q2 := hts (.fieldLink RX4 12 "Patiencery$Table" "rules" "LPatiencery$Rules;") (List.mem_cons_of_mem _ mw_51)
  have q3 := hts (.fieldLink RX4 146 "Patiencery$Rules" "again" "I") (List.mem_cons_of_mem _ mw_278)
  have inX1 : ∀ w ∈ u_ws RX1 TX1 9, w ∈ wtX4_isStockMove := fun w h => List.mem_cons_of_mem _ (inlX1 w h)
  unfold F_X4_isStockMove at hF
  refine lv_aload_n hx hb dX4_isStockMove_0 rfl (lv_at hl 0 rfl) ?_
  refine lv_bipush (v := (nI 9)) hx hb dX4_isStockMove_1 (by decide) ?_
  replace hF := cal1_e hF
  obtain ⟨x1, hc2, hF⟩ := hF
  refine kV_i (As := [.int (nI 9)]) (rest := []) (wr := [(h_0_rules, oX1 r_0_rules)]) (w2 := [(h_0_rules, oX1 r_0_rules), (h_0, oX4 h_0_rules h_0_lies h_0_tops h_0_list T_0), (h_0_lies, eI cI 16 (T_0 1)), (h_0_tops, eI cI 10 (T_0 2)), (h_0_list, eI cI 160 (T_0 3))]) hCF hK (c_X4_topOf l D cI cJ h_0 h_0_lies h_0_tops h_0_list h_0_rules T_0 (nI 9) x1 hc2) (cwV 1 hts (TBL_V mw_133 mw_134 mw_135 mw_17 mw_136) rfl rfl rfl pmX4_topOf ⟨Nat.le_of_ble_eq_true rfl, Nat.le_of_ble_eq_true rfl⟩) hS hA [0, 1, 2, 3] [4] rfl rfl rfl rfl (by decide) rfl rfl rfl hl.1 rfl (Nat.le_of_ble_eq_true rfl) ⟨Nat.zero_le _, Nat.zero_le _⟩ dX4_isStockMove_3 rfl (fun H locs hS => ?_)
  refine lv_iconst (v := (-1)) hx hb dX4_isStockMove_6 (by decide) ?_
  refine lv_icmp_ne (tgt := 34) hx hb dX4_isStockMove_7 (by decide) (fun c_3 => ?_) (fun c_3 => ?_)
  · replace hF := ifn hF c_3
    refine lv_iconst (v := (nI 1)) hx hb dX4_isStockMove_34 (by decide) ?_
    refine lv_goto (tgt := 39) hx hb dX4_isStockMove_35 (by decide) ?_
    replace hF := zb_e hF
    obtain ⟨h01_4, hF⟩ := hF
    have e9_0 := Option.some.inj hF
    subst e9_0
    exact kret _ _ _ _ h01_4 (hS.sub [1, 2, 3, 4, 0] rfl rfl) dX4_isStockMove_39
  · replace hF := ifp hF c_3
    refine lv_aload_n hx hb dX4_isStockMove_10 rfl (lv_at hl 0 rfl) ?_
    refine lv_bipush (v := (nI 7)) hx hb dX4_isStockMove_11 (by decide) ?_
    replace hF := cal1_e hF
    obtain ⟨x5, hc6, hF⟩ := hF
    refine kV_i (As := [.int (nI 7)]) (rest := []) (wr := [(h_0_rules, oX1 r_0_rules)]) (w2 := [(h_0_rules, oX1 r_0_rules), (h_0, oX4 h_0_rules h_0_lies h_0_tops h_0_list T_0), (h_0_lies, eI cI 16 (T_0 1)), (h_0_tops, eI cI 10 (T_0 2)), (h_0_list, eI cI 160 (T_0 3))]) hCF hK (c_X4_topOf l D cI cJ h_0 h_0_lies h_0_tops h_0_list h_0_rules T_0 (nI 7) x5 hc6) (cwV 1 hts (TBL_V mw_133 mw_134 mw_135 mw_17 mw_136) rfl rfl rfl pmX4_topOf ⟨Nat.le_of_ble_eq_true rfl, Nat.le_of_ble_eq_true rfl⟩) hS hA [1, 2, 3, 4] [0] rfl rfl rfl rfl (by decide) rfl rfl rfl hl.1 rfl (Nat.le_of_ble_eq_true rfl) ⟨Nat.zero_le _, Nat.zero_le _⟩ dX4_isStockMove_13 rfl (fun H locs hS => ?_)
    refine lv_iconst (v := (-1)) hx hb dX4_isStockMove_16 (by decide) ?_
    refine lv_icmp_eq (tgt := 38) hx hb dX4_isStockMove_17 (by decide) (fun c_7 => ?_) (fun c_7 => ?_)
    · replace hF := ifp hF c_7
      refine lv_iconst (v := (nI 0)) hx hb dX4_isStockMove_38 (by decide) ?_
      replace hF := zb_e hF
      obtain ⟨h01_8, hF⟩ := hF
      have e9_0 := Option.some.inj hF
      subst e9_0
      exact kret _ _ _ _ h01_8 (hS.sub [1, 2, 3, 4, 0] rfl rfl) dX4_isStockMove_39
    · replace hF := ifn hF c_7
      refine lv_aload_n hx hb dX4_isStockMove_20 rfl (lv_at hl 0 rfl) ?_
      refine r_get hx hb hts inX4 hown hK hS 1 6 rfl rfl (by decide) q0 rfl dX4_isStockMove_21 ?_
      refine lv_aload_n hx hb dX4_isStockMove_24 rfl (lv_at hl 0 rfl) ?_
      refine r_get hx hb hts inX4 hown hK hS 1 0 rfl rfl (by decide) q2 rfl dX4_isStockMove_25 ?_
      refine r_get hx hb hts inX1 hown hK hS 0 7 rfl rfl (by decide) q3 rfl dX4_isStockMove_28 ?_
      refine lv_icmp_ge (tgt := 38) hx hb dX4_isStockMove_31 (by decide) (fun c_9 => ?_) (fun c_9 => ?_)
      · replace hF := ifp hF c_9
        refine lv_iconst (v := (nI 0)) hx hb dX4_isStockMove_38 (by decide) ?_
        replace hF := zb_e hF
        obtain ⟨h01_10, hF⟩ := hF
        have e9_0 := Option.some.inj hF
        subst e9_0
        exact kret _ _ _ _ h01_10 (hS.sub [1, 2, 3, 4, 0] rfl rfl) dX4_isStockMove_39
      · replace hF := ifn hF c_9
        refine lv_iconst (v := (nI 1)) hx hb dX4_isStockMove_34 (by decide) ?_
        refine lv_goto (tgt := 39) hx hb dX4_isStockMove_35 (by decide) ?_
        replace hF := zb_e hF
        obtain ⟨h01_11, hF⟩ := hF
        have e9_0 := Option.some.inj hF
        subst e9_0
        exact kret _ _ _ _ h01_11 (hS.sub [1, 2, 3, 4, 0] rfl rfl) dX4_isStockMove_39
set_option maxHeartbeats 4000000 in
set_option maxRecDepth 100000 in
theorem c_X4_isUp (l : Launch) (D : va_G) (cI cJ : ClassId) (h_0 h_0_lies h_0_tops h_0_list g_0_rules : Nat) (T_0 : Nat → Nat → Int32) (v1 : Int32) (rv : Int32) (hF : F_X4_isUp T_0 v1 = some rv) : CtI l D [(cI, .int), (cJ, .long)] yX4_isUp wtX4_isUp ({ frames := 1, cells := 0, slots := 0, locals := 21 } : Room) [.ref h_0, .int v1] [(h_0, oX4 g_0_rules h_0_lies h_0_tops h_0_list T_0), (h_0_lies, eI cI 16 (T_0 1)), (h_0_tops, eI cI 10 (T_0 2)), (h_0_list, eI cI 160 (T_0 3))] [(h_0, oX4 g_0_rules h_0_lies h_0_tops h_0_list T_0), (h_0_lies, eI cI 16 (T_0 1)), (h_0_tops, eI cI 10 (T_0 2)), (h_0_list, eI cI 160 (T_0 3))] rv := by
  refine CtZ.of (cc := cX4_isUp) (maxL := 2) (by decide) rfl (Nat.le_of_ble_eq_true rfl) ?_
  intro p e s m args below meth c A H0 Q ls X hS hl kret
  have hCF := X.1
  obtain ⟨⟨hx, hb, hml, hown, hts⟩, hK, hA⟩ := X
  have hl : lv_has ls 2 [(0, .ref h_0), (1, .int v1)] := hl
  have q0 := hts (.fieldLink RX4 18 "Patiencery$Table" "lies" "[I") (List.mem_cons_of_mem _ mw_53)
  have inX4 : ∀ w ∈ u_ws RX4 TX4 7, w ∈ wtX4_isUp := fun w h => List.mem_cons_of_mem _ (inlX4 w h)
  unfold F_X4_isUp at hF
  refine lv_aload_n hx hb dX4_isUp_0 rfl (lv_at hl 0 rfl) ?_
  refine r_get hx hb hts inX4 hown hK hS 0 1 rfl rfl (by decide) q0 rfl dX4_isUp_1 ?_
  refine lv_iload_n hx hb dX4_isUp_4 rfl (lv_at hl 1 rfl) ?_
  replace hF := cal1_e hF
  obtain ⟨x1, hc2, hF⟩ := hF
  refine kN_i (As := [.ref h_0_lies, .int v1]) (rest := []) (wr := [(h_0, oX4 g_0_rules h_0_lies h_0_tops h_0_list T_0), (h_0_tops, eI cI 10 (T_0 2)), (h_0_list, eI cI 160 (T_0 3))]) (w2 := [(h_0, oX4 g_0_rules h_0_lies h_0_tops h_0_list T_0), (h_0_tops, eI cI 10 (T_0 2)), (h_0_list, eI cI 160 (T_0 3)), (h_0_lies, eI cI 16 (T_0 1))]) hCF hK (c_X5_at l D cI cJ h_0_lies 16 (T_0 1) v1 x1 hc2) (cwN 2 hK hts (TBL_C mw_114) rfl rfl rfl (host := RX5) (List.mem_of_getElem? (i := 10) rfl) (List.mem_cons_of_mem _ mw_2) (List.mem_cons_of_mem _ mw_113) pmX5_at.2 ⟨Nat.le_of_ble_eq_true rfl, Nat.le_of_ble_eq_true rfl⟩) hS hA [1] [0, 2, 3] rfl rfl rfl rfl (by decide) rfl hl.1 rfl (Nat.le_of_ble_eq_true rfl) ⟨Nat.zero_le _, Nat.zero_le _⟩ dX4_isUp_5 rfl (fun H locs hS => ?_)
  refine lv_bipush (v := (nI 20)) hx hb dX4_isUp_8 (by decide) ?_
  refine lv_icmp_ne (tgt := 17) hx hb dX4_isUp_10 (by decide) (fun c_3 => ?_) (fun c_3 => ?_)
  · replace hF := ifn hF c_3
    refine lv_iconst (v := (nI 0)) hx hb dX4_isUp_17 (by decide) ?_
    replace hF := zb_e hF
    obtain ⟨h01_4, hF⟩ := hF
    have e9_0 := Option.some.inj hF
    subst e9_0
    exact kret _ _ _ _ h01_4 (hS.sub [0, 3, 1, 2] rfl rfl) dX4_isUp_18
  · replace hF := ifp hF c_3
    refine lv_iconst (v := (nI 1)) hx hb dX4_isUp_13 (by decide) ?_
    refine lv_goto (tgt := 18) hx hb dX4_isUp_14 (by decide) ?_
    replace hF := zb_e hF
    obtain ⟨h01_5, hF⟩ := hF
    have e9_0 := Option.some.inj hF
    subst e9_0
    exact kret _ _ _ _ h01_5 (hS.sub [0, 3, 1, 2] rfl rfl) dX4_isUp_18
set_option maxHeartbeats 4000000 in
set_option maxRecDepth 100000 in
theorem c_X4_isNextUp (l : Launch) (D : va_G) (cI cJ : ClassId) (h_0 h_0_lies h_0_tops h_0_list h_0_rules : Nat) (T_0 : Nat → Nat → Int32) (r_0_rules : Nat → Int32) (v1 : Int32) (rv : Int32) (hF : F_X4_isNextUp T_0 r_0_rules v1 = some rv) : CtI l D [(cI, .int), (cJ, .long)] yX4_isNextUp wtX4_isNextUp ({ frames := 2, cells := 0, slots := 0, locals := 42 } : Room) [.ref h_0, .int v1] [(h_0, oX4 h_0_rules h_0_lies h_0_tops h_0_list T_0), (h_0_lies, eI cI 16 (T_0 1)), (h_0_tops, eI cI 10 (T_0 2)), (h_0_list, eI cI 160 (T_0 3)), (h_0_rules, oX1 r_0_rules)] [(h_0, oX4 h_0_rules h_0_lies h_0_tops h_0_list T_0), (h_0_lies, eI cI 16 (T_0 1)), (h_0_tops, eI cI 10 (T_0 2)), (h_0_list, eI cI 160 (T_0 3)), (h_0_rules, oX1 r_0_rules)] rv := by
  refine CtZ.of (cc := cX4_isNextUp) (maxL := 2) (by decide) rfl (Nat.le_of_ble_eq_true rfl) ?_
  intro p e s m args below meth c A H0 Q ls X hS hl kret
  have hCF := X.1
  obtain ⟨⟨hx, hb, hml, hown, hts⟩, hK, hA⟩ := X
  have hl : lv_has ls 2 [(0, .ref h_0), (1, .int v1)] := hl
  have q0 := hts (.fieldLink RX4 12 "Patiencery$Table" "rules" "LPatiencery$Rules;") (List.mem_cons_of_mem _ mw_51)
  have inX4 : ∀ w ∈ u_ws RX4 TX4 7, w ∈ wtX4_isNextUp := fun w h => List.mem_cons_of_mem _ (inlX4 w h)
  unfold F_X4_isNextUp at hF
  refine lv_aload_n hx hb dX4_isNextUp_0 rfl (lv_at hl 0 rfl) ?_
  refine r_get hx hb hts inX4 hown hK hS 0 0 rfl rfl (by decide) q0 rfl dX4_isNextUp_1 ?_
  refine lv_iload_n hx hb dX4_isNextUp_4 rfl (lv_at hl 1 rfl) ?_
  replace hF := cal1_e hF
  obtain ⟨x1, hc2, hF⟩ := hF
  refine kV_i (As := [.int v1]) (rest := []) (wr := [(h_0, oX4 h_0_rules h_0_lies h_0_tops h_0_list T_0), (h_0_lies, eI cI 16 (T_0 1)), (h_0_tops, eI cI 10 (T_0 2)), (h_0_list, eI cI 160 (T_0 3))]) (w2 := [(h_0, oX4 h_0_rules h_0_lies h_0_tops h_0_list T_0), (h_0_lies, eI cI 16 (T_0 1)), (h_0_tops, eI cI 10 (T_0 2)), (h_0_list, eI cI 160 (T_0 3)), (h_0_rules, oX1 r_0_rules)]) hCF hK (c_X1_rankOf l D cI cJ h_0_rules r_0_rules v1 x1 hc2) (cwV 1 hts (TBL_V mw_283 mw_262 mw_263 mw_12 mw_264) rfl rfl rfl pmX1_rankOf ⟨Nat.le_of_ble_eq_true rfl, Nat.le_of_ble_eq_true rfl⟩) hS hA [4] [0, 1, 2, 3] rfl rfl rfl rfl (by decide) rfl rfl rfl hl.1 rfl (Nat.le_of_ble_eq_true rfl) ⟨Nat.zero_le _, Nat.zero_le _⟩ dX4_isNextUp_5 rfl (fun H locs hS => ?_)
  refine lv_iconst (v := (nI 1)) hx hb dX4_isNextUp_8 (by decide) ?_
  refine lv_icmp_eq (tgt := 22) hx hb dX4_isNextUp_9 (by decide) (fun c_3 => ?_) (fun c_3 => ?_)
  · replace hF := ifp hF c_3
    refine lv_iconst (v := (nI 1)) hx hb dX4_isNextUp_22 (by decide) ?_
    refine lv_goto (tgt := 27) hx hb dX4_isNextUp_23 (by decide) ?_
    replace hF := zb_e hF
    obtain ⟨h01_4, hF⟩ := hF
    have e9_0 := Option.some.inj hF
    subst e9_0
    exact kret _ _ _ _ h01_4 hS dX4_isNextUp_27
  · replace hF := ifn hF c_3
    refine lv_aload_n hx hb dX4_isNextUp_12 rfl (lv_at hl 0 rfl) ?_
    refine lv_iload_n hx hb dX4_isNextUp_13 rfl (lv_at hl 1 rfl) ?_
    refine lv_iconst (v := (nI 1)) hx hb dX4_isNextUp_14 (by decide) ?_
    refine lv_isub hx hb dX4_isNextUp_15 ?_
    replace hF := cal1_e hF
    obtain ⟨x5, hc6, hF⟩ := hF
    refine kV_i (As := [.int (v1 - (nI 1))]) (rest := []) (wr := [(h_0_rules, oX1 r_0_rules)]) (w2 := [(h_0_rules, oX1 r_0_rules), (h_0, oX4 h_0_rules h_0_lies h_0_tops h_0_list T_0), (h_0_lies, eI cI 16 (T_0 1)), (h_0_tops, eI cI 10 (T_0 2)), (h_0_list, eI cI 160 (T_0 3))]) hCF hK (c_X4_isUp l D cI cJ h_0 h_0_lies h_0_tops h_0_list h_0_rules T_0 (v1 - (nI 1)) x5 hc6) (cwV 1 hts (TBL_V mw_213 mw_214 mw_215 mw_17 mw_216) rfl rfl rfl pmX4_isUp ⟨Nat.le_of_ble_eq_true rfl, Nat.le_of_ble_eq_true rfl⟩) hS hA [0, 1, 2, 3] [4] rfl rfl rfl rfl (by decide) rfl rfl rfl hl.1 rfl (Nat.le_of_ble_eq_true rfl) ⟨Nat.zero_le _, Nat.zero_le _⟩ dX4_isNextUp_16 rfl (fun H locs hS => ?_)
    refine lv_if_eq (tgt := 26) hx hb dX4_isNextUp_19 (by decide) (fun c_7 => ?_) (fun c_7 => ?_)
    · replace hF := ifp hF c_7
      refine lv_iconst (v := (nI 0)) hx hb dX4_isNextUp_26 (by decide) ?_
      replace hF := zb_e hF
      obtain ⟨h01_8, hF⟩ := hF
      have e9_0 := Option.some.inj hF
      subst e9_0
      exact kret _ _ _ _ h01_8 (hS.sub [1, 2, 3, 4, 0] rfl rfl) dX4_isNextUp_27
    · replace hF := ifn hF c_7
      refine lv_iconst (v := (nI 1)) hx hb dX4_isNextUp_22 (by decide) ?_
      refine lv_goto (tgt := 27) hx hb dX4_isNextUp_23 (by decide) ?_
      replace hF := zb_e hF
      obtain ⟨h01_9, hF⟩ := hF
      have e9_0 := Option.some.inj hF
      subst e9_0
      exact kret _ _ _ _ h01_9 (hS.sub [1, 2, 3, 4, 0] rfl rfl) dX4_isNextUp_27
set_option maxHeartbeats 4000000 in
set_option maxRecDepth 100000 in
theorem c_X4_under (l : Launch) (D : va_G) (cI cJ : ClassId) (h_0 h_0_lies h_0_tops h_0_list g_0_rules : Nat) (T_0 : Nat → Nat → Int32) (v1 : Int32) (rv : Int32) (hF : F_X4_under T_0 v1 = some rv) : CtI l D [(cI, .int), (cJ, .long)] yX4_under wtX4_under ({ frames := 0, cells := 0, slots := 0, locals := 0 } : Room) [.ref h_0, .int v1] [(h_0, oX4 g_0_rules h_0_lies h_0_tops h_0_list T_0), (h_0_lies, eI cI 16 (T_0 1)), (h_0_tops, eI cI 10 (T_0 2)), (h_0_list, eI cI 160 (T_0 3))] [(h_0, oX4 g_0_rules h_0_lies h_0_tops h_0_list T_0), (h_0_lies, eI cI 16 (T_0 1)), (h_0_tops, eI cI 10 (T_0 2)), (h_0_list, eI cI 160 (T_0 3))] rv := by
  refine CtI.of (cc := cX4_under) (maxL := 3) (by decide) rfl (Nat.le_of_ble_eq_true rfl) ?_
  intro p e s m args below meth c A H0 Q ls X hS hl kret
  have hCF := X.1
  obtain ⟨⟨hx, hb, hml, hown, hts⟩, hK, hA⟩ := X
  have hl : lv_has ls 3 [(0, .ref h_0), (1, .int v1)] := hl
  have q0 := hts (.fieldLink RX4 18 "Patiencery$Table" "lies" "[I") (List.mem_cons_of_mem _ mw_53)
  have inX4 : ∀ w ∈ u_ws RX4 TX4 7, w ∈ wtX4_under := fun w h => List.mem_cons_of_mem _ (inlX4 w h)
  have B20 : ∀ (s0 : Int32) (H : Heap) (locs : List Loc) (ls : Array Slot), HS D A H0 [(h_0, oX4 g_0_rules h_0_lies h_0_tops h_0_list T_0), (h_0_lies, eI cI 16 (T_0 1)), (h_0_tops, eI cI 10 (T_0 2)), (h_0_list, eI cI 160 (T_0 3))] H locs → lv_has ls 3 [] → F_X4_under_b20 T_0  s0 = some rv → W p l e ({ frames := 0, cells := 0, slots := 0, locals := 0 } : Room) s m args below meth c H locs 0 0 Q (F0 m 20 ls [.int s0]) := by
    intro s0 H locs ls hS hl hF
    unfold F_X4_under_b20 at hF
    refine lv_istore_n (lv' := [(2, .int s0)]) hx hb dX4_under_20 rfl hl (by decide) rfl (fun ls hl => ?_)
    refine lv_iload_n hx hb dX4_under_21 rfl (lv_at hl 0 rfl) ?_
    refine lv_bipush (v := (nI 16)) hx hb dX4_under_22 (by decide) ?_
    refine lv_icmp_ge (tgt := 31) hx hb dX4_under_24 (by decide) (fun c_1 => ?_) (fun c_1 => ?_)
    · replace hF := ifp hF c_1
      refine lv_iconst (v := (-1)) hx hb dX4_under_31 (by decide) ?_
      have e9_0 := Option.some.inj hF
      subst e9_0
      exact kret _ _ _ _ hS dX4_under_32
    · replace hF := ifn hF c_1
      refine lv_iload_n hx hb dX4_under_27 rfl (lv_at hl 0 rfl) ?_
      refine lv_goto (tgt := 32) hx hb dX4_under_28 (by decide) ?_
      have e9_0 := Option.some.inj hF
      subst e9_0
      exact kret _ _ _ _ hS dX4_under_32
  unfold F_X4_under at hF
  refine lv_iload_n hx hb dX4_under_0 rfl (lv_at hl 1 rfl) ?_
  refine lv_if_lt (tgt := 19) hx hb dX4_under_1 (by decide) (fun c_2 => ?_) (fun c_2 => ?_)
  · replace hF := ifp hF c_2
    refine lv_iconst (v := (-1)) hx hb dX4_under_19 (by decide) ?_
    exact B20 (-1) _ _ _ hS (lv_sub hl [] rfl) hF
  · replace hF := ifn hF c_2
    refine lv_iload_n hx hb dX4_under_4 rfl (lv_at hl 1 rfl) ?_
    refine lv_bipush (v := (nI 16)) hx hb dX4_under_5 (by decide) ?_
    refine lv_icmp_ge (tgt := 19) hx hb dX4_under_7 (by decide) (fun c_3 => ?_) (fun c_3 => ?_)
    · replace hF := ifp hF c_3
      refine lv_iconst (v := (-1)) hx hb dX4_under_19 (by decide) ?_
      exact B20 (-1) _ _ _ hS (lv_sub hl [] rfl) hF
    · replace hF := ifn hF c_3
      refine lv_aload_n hx hb dX4_under_10 rfl (lv_at hl 0 rfl) ?_
      refine r_get hx hb hts inX4 hown hK hS 0 1 rfl rfl (by decide) q0 rfl dX4_under_11 ?_
      refine lv_iload_n hx hb dX4_under_14 rfl (lv_at hl 1 rfl) ?_
      replace hF := rdA_e hF
      obtain ⟨hi5, x4, ex4, hF⟩ := hF
      refine r_iald hx hb hK hS 1 rfl rfl hi5 dX4_under_15 ex4 ?_
      refine lv_goto (tgt := 20) hx hb dX4_under_16 (by decide) ?_
      exact B20 x4 _ _ _ hS (lv_sub hl [] rfl) hF
set_option maxHeartbeats 4000000 in
set_option maxRecDepth 100000 in
theorem c_X4_liesHidden (l : Launch) (D : va_G) (cI cJ : ClassId) (h_0 h_0_lies h_0_tops h_0_list g_0_rules : Nat) (T_0 : Nat → Nat → Int32) (v1 : Int32) (rv : Int32) (hF : F_X4_liesHidden T_0 v1 = some rv) : CtI l D [(cI, .int), (cJ, .long)] yX4_liesHidden wtX4_liesHidden ({ frames := 1, cells := 0, slots := 0, locals := 20 } : Room) [.ref h_0, .int v1] [(h_0, oX4 g_0_rules h_0_lies h_0_tops h_0_list T_0), (h_0_lies, eI cI 16 (T_0 1)), (h_0_tops, eI cI 10 (T_0 2)), (h_0_list, eI cI 160 (T_0 3))] [(h_0, oX4 g_0_rules h_0_lies h_0_tops h_0_list T_0), (h_0_lies, eI cI 16 (T_0 1)), (h_0_tops, eI cI 10 (T_0 2)), (h_0_list, eI cI 160 (T_0 3))] rv := by
  refine CtZ.of (cc := cX4_liesHidden) (maxL := 2) (by decide) rfl (Nat.le_of_ble_eq_true rfl) ?_
  intro p e s m args below meth c A H0 Q ls X hS hl kret
  have hCF := X.1
  obtain ⟨⟨hx, hb, hml, hown, hts⟩, hK, hA⟩ := X
  have hl : lv_has ls 2 [(0, .ref h_0), (1, .int v1)] := hl
  have q0 := hts (.fieldLink RX4 32 "Patiencery$Table" "hidden" "I") (List.mem_cons_of_mem _ mw_57)
  have inX4 : ∀ w ∈ u_ws RX4 TX4 7, w ∈ wtX4_liesHidden := fun w h => List.mem_cons_of_mem _ (inlX4 w h)
  unfold F_X4_liesHidden at hF
  refine lv_iload_n hx hb dX4_liesHidden_0 rfl (lv_at hl 1 rfl) ?_
  replace hF := cal1_e hF
  obtain ⟨x1, hc2, hF⟩ := hF
  refine kN_i (As := [.int v1]) (rest := []) (wr := [(h_0, oX4 g_0_rules h_0_lies h_0_tops h_0_list T_0), (h_0_lies, eI cI 16 (T_0 1)), (h_0_tops, eI cI 10 (T_0 2)), (h_0_list, eI cI 160 (T_0 3))]) (w2 := [(h_0, oX4 g_0_rules h_0_lies h_0_tops h_0_list T_0), (h_0_lies, eI cI 16 (T_0 1)), (h_0_tops, eI cI 10 (T_0 2)), (h_0_list, eI cI 160 (T_0 3))]) hCF hK (c_X5_isCard l D cI cJ v1 x1 hc2) (cwN 1 hK hts (TBL_C mw_138) rfl rfl rfl (host := RX5) (List.mem_of_getElem? (i := 8) rfl) (List.mem_cons_of_mem _ mw_2) (List.mem_cons_of_mem _ mw_137) pmX5_isCard.2 ⟨Nat.le_of_ble_eq_true rfl, Nat.le_of_ble_eq_true rfl⟩) hS hA [] [0, 1, 2, 3] rfl rfl rfl rfl (by decide) rfl hl.1 rfl (Nat.le_of_ble_eq_true rfl) ⟨Nat.zero_le _, Nat.zero_le _⟩ dX4_liesHidden_1 rfl (fun H locs hS => ?_)
  refine lv_if_eq (tgt := 23) hx hb dX4_liesHidden_4 (by decide) (fun c_3 => ?_) (fun c_3 => ?_)
  · replace hF := ifp hF c_3
    refine lv_iconst (v := (nI 0)) hx hb dX4_liesHidden_23 (by decide) ?_
    replace hF := zb_e hF
    obtain ⟨h01_4, hF⟩ := hF
    have e9_0 := Option.some.inj hF
    subst e9_0
    exact kret _ _ _ _ h01_4 hS dX4_liesHidden_24
  · replace hF := ifn hF c_3
    refine lv_aload_n hx hb dX4_liesHidden_7 rfl (lv_at hl 0 rfl) ?_
    refine r_get hx hb hts inX4 hown hK hS 0 5 rfl rfl (by decide) q0 rfl dX4_liesHidden_8 ?_
    refine lv_iload_n hx hb dX4_liesHidden_11 rfl (lv_at hl 1 rfl) ?_
    refine lv_ishr hx hb dX4_liesHidden_12 ?_
    refine lv_iconst (v := (nI 1)) hx hb dX4_liesHidden_13 (by decide) ?_
    refine lv_iand hx hb dX4_liesHidden_14 ?_
    refine lv_iconst (v := (nI 1)) hx hb dX4_liesHidden_15 (by decide) ?_
    refine lv_icmp_ne (tgt := 23) hx hb dX4_liesHidden_16 (by decide) (fun c_5 => ?_) (fun c_5 => ?_)
    · replace hF := ifn hF c_5
      refine lv_iconst (v := (nI 0)) hx hb dX4_liesHidden_23 (by decide) ?_
      replace hF := zb_e hF
      obtain ⟨h01_6, hF⟩ := hF
      have e9_0 := Option.some.inj hF
      subst e9_0
      exact kret _ _ _ _ h01_6 hS dX4_liesHidden_24
    · replace hF := ifp hF c_5
      refine lv_iconst (v := (nI 1)) hx hb dX4_liesHidden_19 (by decide) ?_
      refine lv_goto (tgt := 24) hx hb dX4_liesHidden_20 (by decide) ?_
      replace hF := zb_e hF
      obtain ⟨h01_7, hF⟩ := hF
      have e9_0 := Option.some.inj hF
      subst e9_0
      exact kret _ _ _ _ h01_7 hS dX4_liesHidden_24
set_option maxHeartbeats 4000000 in
set_option maxRecDepth 100000 in
theorem c_X4_runOf (l : Launch) (D : va_G) (cI cJ : ClassId) (h_0 h_0_lies h_0_tops h_0_list h_0_rules : Nat) (T_0 : Nat → Nat → Int32) (r_0_rules : Nat → Int32) (v1 : Int32) (rv : Int32) (hF : F_X4_runOf T_0 r_0_rules v1 = some rv) : CtI l D [(cI, .int), (cJ, .long)] yX4_runOf wtX4_runOf ({ frames := 2, cells := 0, slots := 0, locals := 43 } : Room) [.ref h_0, .int v1] [(h_0, oX4 h_0_rules h_0_lies h_0_tops h_0_list T_0), (h_0_lies, eI cI 16 (T_0 1)), (h_0_tops, eI cI 10 (T_0 2)), (h_0_list, eI cI 160 (T_0 3)), (h_0_rules, oX1 r_0_rules)] [(h_0, oX4 h_0_rules h_0_lies h_0_tops h_0_list T_0), (h_0_lies, eI cI 16 (T_0 1)), (h_0_tops, eI cI 10 (T_0 2)), (h_0_list, eI cI 160 (T_0 3)), (h_0_rules, oX1 r_0_rules)] rv := by
  refine CtI.of (cc := cX4_runOf) (maxL := 5) (by decide) rfl (Nat.le_of_ble_eq_true rfl) ?_
  intro p e s m args below meth c A H0 Q ls X hS hl kret
  have hCF := X.1
  obtain ⟨⟨hx, hb, hml, hown, hts⟩, hK, hA⟩ := X
  have hl : lv_has ls 5 [(0, .ref h_0), (1, .int v1)] := hl
  have q0 := hts (.fieldLink RX4 12 "Patiencery$Table" "rules" "LPatiencery$Rules;") (List.mem_cons_of_mem _ mw_51)
  have inX4 : ∀ w ∈ u_ws RX4 TX4 7, w ∈ wtX4_runOf := fun w h => List.mem_cons_of_mem _ (inlX4 w h)
  have S24 : ∀ (K24 : Int32 → Int32 → Int32 → Option (Int32)) (_ : ∀ (v2 : Int32) (v3 : Int32) (v4 : Int32) (H : Heap) (locs : List Loc) (ls : Array Slot), HS D A H0 [(h_0, oX4 h_0_rules h_0_lies h_0_tops h_0_list T_0), (h_0_lies, eI cI 16 (T_0 1)), (h_0_tops, eI cI 10 (T_0 2)), (h_0_list, eI cI 160 (T_0 3)), (h_0_rules, oX1 r_0_rules)] H locs → lv_has ls 5 [(0, .ref h_0), (2, .int v2), (3, .int v3), (4, .int v4)] → K24 v2 v3 v4 = some rv → W p l e ({ frames := 2, cells := 0, slots := 0, locals := 43 } : Room) s m args below meth c H locs 0 0 Q (F0 m 24 ls [])) (v2 : Int32) (v3 : Int32) (v4 : Int32) (H : Heap) (locs : List Loc) (ls : Array Slot), HS D A H0 [(h_0, oX4 h_0_rules h_0_lies h_0_tops h_0_list T_0), (h_0_lies, eI cI 16 (T_0 1)), (h_0_tops, eI cI 10 (T_0 2)), (h_0_list, eI cI 160 (T_0 3)), (h_0_rules, oX1 r_0_rules)] H locs → lv_has ls 5 [(0, .ref h_0), (2, .int v2), (3, .int v3), (4, .int v4)] → F_X4_runOf_s24 T_0 r_0_rules K24 v2 v3 v4 = some rv → W p l e ({ frames := 2, cells := 0, slots := 0, locals := 43 } : Room) s m args below meth c H locs 0 0 Q (F0 m 24 ls []) := by
    intro K24 hK24 v2 v3 v4 H locs ls hS hl hF
    unfold F_X4_runOf_s24 at hF
    refine lv_iload hx hb dX4_runOf_24 (lv_at hl 3 rfl) ?_
    refine lv_iconst (v := (-1)) hx hb dX4_runOf_26 (by decide) ?_
    refine lv_icmp_eq (tgt := 74) hx hb dX4_runOf_27 (by decide) (fun c_1 => ?_) (fun c_1 => ?_)
    · replace hF := ifp hF c_1
      refine lv_iload_n hx hb dX4_runOf_74 rfl (lv_at hl 2 rfl) ?_
      have e9_0 := Option.some.inj hF
      subst e9_0
      exact kret _ _ _ _ hS dX4_runOf_75
    · replace hF := ifn hF c_1
      refine lv_iload_n hx hb dX4_runOf_30 rfl (lv_at hl 2 rfl) ?_
      refine lv_bipush (v := (nI 16)) hx hb dX4_runOf_31 (by decide) ?_
      refine lv_icmp_ge (tgt := 74) hx hb dX4_runOf_33 (by decide) (fun c_2 => ?_) (fun c_2 => ?_)
      · replace hF := ifp hF c_2
        refine lv_iload_n hx hb dX4_runOf_74 rfl (lv_at hl 2 rfl) ?_
        have e9_0 := Option.some.inj hF
        subst e9_0
        exact kret _ _ _ _ hS dX4_runOf_75
      · replace hF := ifn hF c_2
        refine lv_aload_n hx hb dX4_runOf_36 rfl (lv_at hl 0 rfl) ?_
        refine lv_iload hx hb dX4_runOf_37 (lv_at hl 3 rfl) ?_
        replace hF := cal1_e hF
        obtain ⟨x3, hc4, hF⟩ := hF
        refine kV_i (As := [.int v4]) (rest := []) (wr := [(h_0_rules, oX1 r_0_rules)]) (w2 := [(h_0_rules, oX1 r_0_rules), (h_0, oX4 h_0_rules h_0_lies h_0_tops h_0_list T_0), (h_0_lies, eI cI 16 (T_0 1)), (h_0_tops, eI cI 10 (T_0 2)), (h_0_list, eI cI 160 (T_0 3))]) hCF hK (c_X4_liesHidden l D cI cJ h_0 h_0_lies h_0_tops h_0_list h_0_rules T_0 v4 x3 hc4) (cwV 1 hts (TBL_V mw_253 mw_254 mw_255 mw_17 mw_256) rfl rfl rfl pmX4_liesHidden ⟨Nat.le_of_ble_eq_true rfl, Nat.le_of_ble_eq_true rfl⟩) hS hA [0, 1, 2, 3] [4] rfl rfl rfl rfl (by decide) rfl rfl rfl hl.1 rfl (Nat.le_of_ble_eq_true rfl) ⟨Nat.zero_le _, Nat.zero_le _⟩ dX4_runOf_39 rfl (fun H locs hS => ?_)
        refine lv_if_ne (tgt := 74) hx hb dX4_runOf_42 (by decide) (fun c_5 => ?_) (fun c_5 => ?_)
        · replace hF := ifn hF c_5
          refine lv_iload_n hx hb dX4_runOf_74 rfl (lv_at hl 2 rfl) ?_
          have e9_0 := Option.some.inj hF
          subst e9_0
          exact kret _ _ _ _ (hS.sub [1, 2, 3, 4, 0] rfl rfl) dX4_runOf_75
        · replace hF := ifp hF c_5
          refine lv_aload_n hx hb dX4_runOf_45 rfl (lv_at hl 0 rfl) ?_
          refine r_get hx hb hts inX4 hown hK hS 1 0 rfl rfl (by decide) q0 rfl dX4_runOf_46 ?_
          refine lv_iload_n hx hb dX4_runOf_49 rfl (lv_at hl 1 rfl) ?_
          refine lv_iload hx hb dX4_runOf_50 (lv_at hl 3 rfl) ?_
          replace hF := cal1_e hF
          obtain ⟨x6, hc7, hF⟩ := hF
          refine kV_i (As := [.int v2, .int v4]) (rest := []) (wr := [(h_0, oX4 h_0_rules h_0_lies h_0_tops h_0_list T_0), (h_0_lies, eI cI 16 (T_0 1)), (h_0_tops, eI cI 10 (T_0 2)), (h_0_list, eI cI 160 (T_0 3))]) (w2 := [(h_0, oX4 h_0_rules h_0_lies h_0_tops h_0_list T_0), (h_0_lies, eI cI 16 (T_0 1)), (h_0_tops, eI cI 10 (T_0 2)), (h_0_list, eI cI 160 (T_0 3)), (h_0_rules, oX1 r_0_rules)]) hCF hK (c_X1_isFitting l D cI cJ h_0_rules r_0_rules v2 v4 x6 hc7) (cwV 2 hts (TBL_V mw_257 mw_258 mw_259 mw_12 mw_260) rfl rfl rfl pmX1_isFitting ⟨Nat.le_of_ble_eq_true rfl, Nat.le_of_ble_eq_true rfl⟩) hS hA [0] [1, 2, 3, 4] rfl rfl rfl rfl (by decide) rfl rfl rfl hl.1 rfl (Nat.le_of_ble_eq_true rfl) ⟨Nat.zero_le _, Nat.zero_le _⟩ dX4_runOf_52 rfl (fun H locs hS => ?_)
          refine lv_if_eq (tgt := 74) hx hb dX4_runOf_55 (by decide) (fun c_8 => ?_) (fun c_8 => ?_)
          · replace hF := ifp hF c_8
            refine lv_iload_n hx hb dX4_runOf_74 rfl (lv_at hl 2 rfl) ?_
            have e9_0 := Option.some.inj hF
            subst e9_0
            exact kret _ _ _ _ hS dX4_runOf_75
          · replace hF := ifn hF c_8
            refine lv_iinc (v := v3 + (nI 1)) (lv' := [(3, .int (v3 + (nI 1))), (0, .ref h_0), (2, .int v2), (4, .int v4)]) hx hb dX4_runOf_58 hl (k := 2) rfl rfl (by decide) rfl (fun ls hl => ?_)
            refine lv_iload hx hb dX4_runOf_61 (lv_at hl 3 rfl) ?_
            refine lv_istore_n (lv' := [(2, .int v4), (3, .int (v3 + (nI 1))), (0, .ref h_0), (4, .int v4)]) hx hb dX4_runOf_63 rfl hl (by decide) rfl (fun ls hl => ?_)
            refine lv_aload_n hx hb dX4_runOf_64 rfl (lv_at hl 2 rfl) ?_
            refine lv_iload_n hx hb dX4_runOf_65 rfl (lv_at hl 0 rfl) ?_
            replace hF := cal1_e hF
            obtain ⟨x9, hc10, hF⟩ := hF
            refine kV_i (As := [.int v4]) (rest := []) (wr := [(h_0_rules, oX1 r_0_rules)]) (w2 := [(h_0_rules, oX1 r_0_rules), (h_0, oX4 h_0_rules h_0_lies h_0_tops h_0_list T_0), (h_0_lies, eI cI 16 (T_0 1)), (h_0_tops, eI cI 10 (T_0 2)), (h_0_list, eI cI 160 (T_0 3))]) hCF hK (c_X4_under l D cI cJ h_0 h_0_lies h_0_tops h_0_list h_0_rules T_0 v4 x9 hc10) (cwV 1 hts (TBL_V mw_249 mw_250 mw_251 mw_17 mw_252) rfl rfl rfl pmX4_under ⟨Nat.le_of_ble_eq_true rfl, Nat.le_of_ble_eq_true rfl⟩) hS hA [0, 1, 2, 3] [4] rfl rfl rfl rfl (by decide) rfl rfl rfl hl.1 rfl (Nat.le_of_ble_eq_true rfl) ⟨Nat.zero_le _, Nat.zero_le _⟩ dX4_runOf_66 rfl (fun H locs hS => ?_)
            refine lv_istore (lv' := [(4, .int x9), (2, .int v4), (3, .int (v3 + (nI 1))), (0, .ref h_0)]) hx hb dX4_runOf_69 hl (by decide) rfl (fun ls hl => ?_)
            refine lv_goto (tgt := 24) hx hb dX4_runOf_71 (by decide) ?_
            exact hK24 v4 (v3 + (nI 1)) x9 _ _ _ (hS.sub [1, 2, 3, 4, 0] rfl rfl) (lv_sub hl [3, 1, 2, 0] rfl) hF
  have L24 : ∀  (n : Nat) (v2 : Int32) (v3 : Int32) (v4 : Int32) (H : Heap) (locs : List Loc) (ls : Array Slot), HS D A H0 [(h_0, oX4 h_0_rules h_0_lies h_0_tops h_0_list T_0), (h_0_lies, eI cI 16 (T_0 1)), (h_0_tops, eI cI 10 (T_0 2)), (h_0_list, eI cI 160 (T_0 3)), (h_0_rules, oX1 r_0_rules)] H locs → lv_has ls 5 [(0, .ref h_0), (2, .int v2), (3, .int v3), (4, .int v4)] → F_X4_runOf_L24 T_0 r_0_rules  n v2 v3 v4 = some rv → W p l e ({ frames := 2, cells := 0, slots := 0, locals := 43 } : Room) s m args below meth c H locs 0 0 Q (F0 m 24 ls []) := by
    intro  n
    induction n with
    | zero => intro v2 v3 v4 H locs ls hS hl hF; exact nomatch (show (none : Option (Int32)) = some _ from hF)
    | succ n ih => intro v2 v3 v4 H locs ls hS hl hF; exact S24  _ ih v2 v3 v4 H locs ls hS hl hF
  have B16 : ∀ (v2 : Int32) (s0 : Int32) (H : Heap) (locs : List Loc) (ls : Array Slot), HS D A H0 [(h_0, oX4 h_0_rules h_0_lies h_0_tops h_0_list T_0), (h_0_lies, eI cI 16 (T_0 1)), (h_0_tops, eI cI 10 (T_0 2)), (h_0_list, eI cI 160 (T_0 3)), (h_0_rules, oX1 r_0_rules)] H locs → lv_has ls 5 [(0, .ref h_0), (2, .int v2)] → F_X4_runOf_b16 T_0 r_0_rules  v2 s0 = some rv → W p l e ({ frames := 2, cells := 0, slots := 0, locals := 43 } : Room) s m args below meth c H locs 0 0 Q (F0 m 16 ls [.int s0]) := by
    intro v2 s0 H locs ls hS hl hF
    unfold F_X4_runOf_b16 at hF
    refine lv_istore_n (lv' := [(3, .int s0), (0, .ref h_0), (2, .int v2)]) hx hb dX4_runOf_16 rfl hl (by decide) rfl (fun ls hl => ?_)
    refine lv_aload_n hx hb dX4_runOf_17 rfl (lv_at hl 1 rfl) ?_
    refine lv_iload_n hx hb dX4_runOf_18 rfl (lv_at hl 2 rfl) ?_
    replace hF := cal1_e hF
    obtain ⟨x11, hc12, hF⟩ := hF
    refine kV_i (As := [.int v2]) (rest := []) (wr := [(h_0_rules, oX1 r_0_rules)]) (w2 := [(h_0_rules, oX1 r_0_rules), (h_0, oX4 h_0_rules h_0_lies h_0_tops h_0_list T_0), (h_0_lies, eI cI 16 (T_0 1)), (h_0_tops, eI cI 10 (T_0 2)), (h_0_list, eI cI 160 (T_0 3))]) hCF hK (c_X4_under l D cI cJ h_0 h_0_lies h_0_tops h_0_list h_0_rules T_0 v2 x11 hc12) (cwV 1 hts (TBL_V mw_249 mw_250 mw_251 mw_17 mw_252) rfl rfl rfl pmX4_under ⟨Nat.le_of_ble_eq_true rfl, Nat.le_of_ble_eq_true rfl⟩) hS hA [0, 1, 2, 3] [4] rfl rfl rfl rfl (by decide) rfl rfl rfl hl.1 rfl (Nat.le_of_ble_eq_true rfl) ⟨Nat.zero_le _, Nat.zero_le _⟩ dX4_runOf_19 rfl (fun H locs hS => ?_)
    refine lv_istore (lv' := [(4, .int x11), (3, .int s0), (0, .ref h_0), (2, .int v2)]) hx hb dX4_runOf_22 hl (by decide) rfl (fun ls hl => ?_)
    exact L24 FU v2 s0 x11 _ _ _ (hS.sub [1, 2, 3, 4, 0] rfl rfl) (lv_sub hl [2, 3, 1, 0] rfl) hF
  unfold F_X4_runOf at hF
  refine lv_aload_n hx hb dX4_runOf_0 rfl (lv_at hl 0 rfl) ?_
  refine lv_iload_n hx hb dX4_runOf_1 rfl (lv_at hl 1 rfl) ?_
  replace hF := cal1_e hF
  obtain ⟨x13, hc14, hF⟩ := hF
  refine kV_i (As := [.int v1]) (rest := []) (wr := [(h_0_rules, oX1 r_0_rules)]) (w2 := [(h_0_rules, oX1 r_0_rules), (h_0, oX4 h_0_rules h_0_lies h_0_tops h_0_list T_0), (h_0_lies, eI cI 16 (T_0 1)), (h_0_tops, eI cI 10 (T_0 2)), (h_0_list, eI cI 160 (T_0 3))]) hCF hK (c_X4_topOf l D cI cJ h_0 h_0_lies h_0_tops h_0_list h_0_rules T_0 v1 x13 hc14) (cwV 1 hts (TBL_V mw_133 mw_134 mw_135 mw_17 mw_136) rfl rfl rfl pmX4_topOf ⟨Nat.le_of_ble_eq_true rfl, Nat.le_of_ble_eq_true rfl⟩) hS hA [0, 1, 2, 3] [4] rfl rfl rfl rfl (by decide) rfl rfl rfl hl.1 rfl (Nat.le_of_ble_eq_true rfl) ⟨Nat.zero_le _, Nat.zero_le _⟩ dX4_runOf_2 rfl (fun H locs hS => ?_)
  refine lv_istore_n (lv' := [(2, .int x13), (0, .ref h_0), (1, .int v1)]) hx hb dX4_runOf_5 rfl hl (by decide) rfl (fun ls hl => ?_)
  refine lv_iload_n hx hb dX4_runOf_6 rfl (lv_at hl 0 rfl) ?_
  refine lv_iconst (v := (-1)) hx hb dX4_runOf_7 (by decide) ?_
  refine lv_icmp_ne (tgt := 15) hx hb dX4_runOf_8 (by decide) (fun c_15 => ?_) (fun c_15 => ?_)
  · replace hF := ifn hF c_15
    refine lv_iconst (v := (nI 1)) hx hb dX4_runOf_15 (by decide) ?_
    exact B16 x13 (nI 1) _ _ _ (hS.sub [1, 2, 3, 4, 0] rfl rfl) (lv_sub hl [1, 0] rfl) hF
  · replace hF := ifp hF c_15
    refine lv_iconst (v := (nI 0)) hx hb dX4_runOf_11 (by decide) ?_
    refine lv_goto (tgt := 16) hx hb dX4_runOf_12 (by decide) ?_
    exact B16 x13 (nI 0) _ _ _ (hS.sub [1, 2, 3, 4, 0] rfl rfl) (lv_sub hl [1, 0] rfl) hF
set_option maxHeartbeats 4000000 in
set_option maxRecDepth 100000 in
theorem c_X4_mostTo (l : Launch) (D : va_G) (cI cJ : ClassId) (h_0 h_0_lies h_0_tops h_0_list h_0_rules : Nat) (T_0 : Nat → Nat → Int32) (r_0_rules : Nat → Int32) (v1 : Int32) (rv : Int32) (hF : F_X4_mostTo T_0 r_0_rules v1 = some rv) : CtI l D [(cI, .int), (cJ, .long)] yX4_mostTo wtX4_mostTo ({ frames := 1, cells := 0, slots := 0, locals := 21 } : Room) [.ref h_0, .int v1] [(h_0, oX4 h_0_rules h_0_lies h_0_tops h_0_list T_0), (h_0_lies, eI cI 16 (T_0 1)), (h_0_tops, eI cI 10 (T_0 2)), (h_0_list, eI cI 160 (T_0 3)), (h_0_rules, oX1 r_0_rules)] [(h_0, oX4 h_0_rules h_0_lies h_0_tops h_0_list T_0), (h_0_lies, eI cI 16 (T_0 1)), (h_0_tops, eI cI 10 (T_0 2)), (h_0_list, eI cI 160 (T_0 3)), (h_0_rules, oX1 r_0_rules)] rv := by
  refine CtI.of (cc := cX4_mostTo) (maxL := 4) (by decide) rfl (Nat.le_of_ble_eq_true rfl) ?_
  intro p e s m args below meth c A H0 Q ls X hS hl kret
  have hCF := X.1
  obtain ⟨⟨hx, hb, hml, hown, hts⟩, hK, hA⟩ := X
  have hl : lv_has ls 4 [(0, .ref h_0), (1, .int v1)] := hl
  have q0 := hts (.fieldLink RX4 12 "Patiencery$Table" "rules" "LPatiencery$Rules;") (List.mem_cons_of_mem _ mw_51)
  have inX4 : ∀ w ∈ u_ws RX4 TX4 7, w ∈ wtX4_mostTo := fun w h => List.mem_cons_of_mem _ (inlX4 w h)
  have q2 := hts (.fieldLink RX4 57 "Patiencery$Rules" "columns" "I") (List.mem_cons_of_mem _ mw_121)
  have inX1 : ∀ w ∈ u_ws RX1 TX1 9, w ∈ wtX4_mostTo := fun w h => List.mem_cons_of_mem _ (inlX1 w h)
  have q4 := hts (.fieldLink RX4 130 "Patiencery$Rules" "cells" "I") (List.mem_cons_of_mem _ mw_273)
  have B73 : ∀ (K42 : Int32 → Int32 → Int32 → Option (Int32)) (_ : ∀ (v1 : Int32) (v2 : Int32) (v3 : Int32) (H : Heap) (locs : List Loc) (ls : Array Slot), HS D A H0 [(h_0, oX4 h_0_rules h_0_lies h_0_tops h_0_list T_0), (h_0_lies, eI cI 16 (T_0 1)), (h_0_tops, eI cI 10 (T_0 2)), (h_0_list, eI cI 160 (T_0 3)), (h_0_rules, oX1 r_0_rules)] H locs → lv_has ls 4 [(0, .ref h_0), (1, .int v1), (2, .int v2), (3, .int v3)] → K42 v1 v2 v3 = some rv → W p l e ({ frames := 1, cells := 0, slots := 0, locals := 21 } : Room) s m args below meth c H locs 0 0 Q (F0 m 42 ls [])) (v1 : Int32) (v3 : Int32) (s0 : Int32) (s1 : Int32) (H : Heap) (locs : List Loc) (ls : Array Slot), HS D A H0 [(h_0, oX4 h_0_rules h_0_lies h_0_tops h_0_list T_0), (h_0_lies, eI cI 16 (T_0 1)), (h_0_tops, eI cI 10 (T_0 2)), (h_0_list, eI cI 160 (T_0 3)), (h_0_rules, oX1 r_0_rules)] H locs → lv_has ls 4 [(0, .ref h_0), (1, .int v1), (3, .int v3)] → F_X4_mostTo_b73 T_0 r_0_rules K42 v1 v3 s0 s1 = some rv → W p l e ({ frames := 1, cells := 0, slots := 0, locals := 21 } : Room) s m args below meth c H locs 0 0 Q (F0 m 73 ls [.int s1, .int s0]) := by
    intro K42 hK42 v1 v3 s0 s1 H locs ls hS hl hF
    unfold F_X4_mostTo_b73 at hF
    refine lv_imul hx hb dX4_mostTo_73 ?_
    refine lv_istore_n (lv' := [(2, .int (s0 * s1)), (0, .ref h_0), (1, .int v1), (3, .int v3)]) hx hb dX4_mostTo_74 rfl hl (by decide) rfl (fun ls hl => ?_)
    refine lv_iinc (v := v3 + (nI 1)) (lv' := [(3, .int (v3 + (nI 1))), (2, .int (s0 * s1)), (0, .ref h_0), (1, .int v1)]) hx hb dX4_mostTo_75 hl (k := 3) rfl rfl (by decide) rfl (fun ls hl => ?_)
    refine lv_goto (tgt := 42) hx hb dX4_mostTo_78 (by decide) ?_
    exact hK42 v1 (s0 * s1) (v3 + (nI 1)) _ _ _ hS (lv_sub hl [2, 3, 1, 0] rfl) hF
  have S42 : ∀ (K42 : Int32 → Int32 → Int32 → Option (Int32)) (_ : ∀ (v1 : Int32) (v2 : Int32) (v3 : Int32) (H : Heap) (locs : List Loc) (ls : Array Slot), HS D A H0 [(h_0, oX4 h_0_rules h_0_lies h_0_tops h_0_list T_0), (h_0_lies, eI cI 16 (T_0 1)), (h_0_tops, eI cI 10 (T_0 2)), (h_0_list, eI cI 160 (T_0 3)), (h_0_rules, oX1 r_0_rules)] H locs → lv_has ls 4 [(0, .ref h_0), (1, .int v1), (2, .int v2), (3, .int v3)] → K42 v1 v2 v3 = some rv → W p l e ({ frames := 1, cells := 0, slots := 0, locals := 21 } : Room) s m args below meth c H locs 0 0 Q (F0 m 42 ls [])) (v1 : Int32) (v2 : Int32) (v3 : Int32) (H : Heap) (locs : List Loc) (ls : Array Slot), HS D A H0 [(h_0, oX4 h_0_rules h_0_lies h_0_tops h_0_list T_0), (h_0_lies, eI cI 16 (T_0 1)), (h_0_tops, eI cI 10 (T_0 2)), (h_0_list, eI cI 160 (T_0 3)), (h_0_rules, oX1 r_0_rules)] H locs → lv_has ls 4 [(0, .ref h_0), (1, .int v1), (2, .int v2), (3, .int v3)] → F_X4_mostTo_s42 T_0 r_0_rules K42 v1 v2 v3 = some rv → W p l e ({ frames := 1, cells := 0, slots := 0, locals := 21 } : Room) s m args below meth c H locs 0 0 Q (F0 m 42 ls []) := by
    intro K42 hK42 v1 v2 v3 H locs ls hS hl hF
    unfold F_X4_mostTo_s42 at hF
    refine lv_iload_n hx hb dX4_mostTo_42 rfl (lv_at hl 3 rfl) ?_
    refine lv_aload_n hx hb dX4_mostTo_43 rfl (lv_at hl 0 rfl) ?_
    refine r_get hx hb hts inX4 hown hK hS 0 0 rfl rfl (by decide) q0 rfl dX4_mostTo_44 ?_
    refine r_get hx hb hts inX1 hown hK hS 4 2 rfl rfl (by decide) q2 rfl dX4_mostTo_47 ?_
    refine lv_icmp_ge (tgt := 81) hx hb dX4_mostTo_50 (by decide) (fun c_1 => ?_) (fun c_1 => ?_)
    · replace hF := ifp hF c_1
      refine lv_iload_n hx hb dX4_mostTo_81 rfl (lv_at hl 2 rfl) ?_
      have e9_0 := Option.some.inj hF
      subst e9_0
      exact kret _ _ _ _ hS dX4_mostTo_82
    · replace hF := ifn hF c_1
      refine lv_iload_n hx hb dX4_mostTo_53 rfl (lv_at hl 2 rfl) ?_
      refine lv_iload_n hx hb dX4_mostTo_54 rfl (lv_at hl 3 rfl) ?_
      refine lv_iload_n hx hb dX4_mostTo_55 rfl (lv_at hl 1 rfl) ?_
      refine lv_icmp_eq (tgt := 72) hx hb dX4_mostTo_56 (by decide) (fun c_2 => ?_) (fun c_2 => ?_)
      · replace hF := ifp hF c_2
        refine lv_iconst (v := (nI 1)) hx hb dX4_mostTo_72 (by decide) ?_
        exact B73 K42 hK42 v1 v3 v2 (nI 1) _ _ _ hS (lv_sub hl [0, 1, 3] rfl) hF
      · replace hF := ifn hF c_2
        refine lv_aload_n hx hb dX4_mostTo_59 rfl (lv_at hl 0 rfl) ?_
        refine lv_iload_n hx hb dX4_mostTo_60 rfl (lv_at hl 3 rfl) ?_
        replace hF := cal1_e hF
        obtain ⟨x3, hc4, hF⟩ := hF
        refine kV_i (As := [.int v3]) (rest := [.int v2]) (wr := [(h_0_rules, oX1 r_0_rules)]) (w2 := [(h_0_rules, oX1 r_0_rules), (h_0, oX4 h_0_rules h_0_lies h_0_tops h_0_list T_0), (h_0_lies, eI cI 16 (T_0 1)), (h_0_tops, eI cI 10 (T_0 2)), (h_0_list, eI cI 160 (T_0 3))]) hCF hK (c_X4_topOf l D cI cJ h_0 h_0_lies h_0_tops h_0_list h_0_rules T_0 v3 x3 hc4) (cwV 1 hts (TBL_V mw_133 mw_134 mw_135 mw_17 mw_136) rfl rfl rfl pmX4_topOf ⟨Nat.le_of_ble_eq_true rfl, Nat.le_of_ble_eq_true rfl⟩) hS hA [0, 1, 2, 3] [4] rfl rfl rfl rfl (by decide) rfl rfl rfl hl.1 rfl (Nat.le_of_ble_eq_true rfl) ⟨Nat.zero_le _, Nat.zero_le _⟩ dX4_mostTo_61 rfl (fun H locs hS => ?_)
        refine lv_iconst (v := (-1)) hx hb dX4_mostTo_64 (by decide) ?_
        refine lv_icmp_ne (tgt := 72) hx hb dX4_mostTo_65 (by decide) (fun c_5 => ?_) (fun c_5 => ?_)
        · replace hF := ifn hF c_5
          refine lv_iconst (v := (nI 1)) hx hb dX4_mostTo_72 (by decide) ?_
          exact B73 K42 hK42 v1 v3 v2 (nI 1) _ _ _ (hS.sub [1, 2, 3, 4, 0] rfl rfl) (lv_sub hl [0, 1, 3] rfl) hF
        · replace hF := ifp hF c_5
          refine lv_iconst (v := (nI 2)) hx hb dX4_mostTo_68 (by decide) ?_
          refine lv_goto (tgt := 73) hx hb dX4_mostTo_69 (by decide) ?_
          exact B73 K42 hK42 v1 v3 v2 (nI 2) _ _ _ (hS.sub [1, 2, 3, 4, 0] rfl rfl) (lv_sub hl [0, 1, 3] rfl) hF
  have L42 : ∀  (n : Nat) (v1 : Int32) (v2 : Int32) (v3 : Int32) (H : Heap) (locs : List Loc) (ls : Array Slot), HS D A H0 [(h_0, oX4 h_0_rules h_0_lies h_0_tops h_0_list T_0), (h_0_lies, eI cI 16 (T_0 1)), (h_0_tops, eI cI 10 (T_0 2)), (h_0_list, eI cI 160 (T_0 3)), (h_0_rules, oX1 r_0_rules)] H locs → lv_has ls 4 [(0, .ref h_0), (1, .int v1), (2, .int v2), (3, .int v3)] → F_X4_mostTo_L42 T_0 r_0_rules  n v1 v2 v3 = some rv → W p l e ({ frames := 1, cells := 0, slots := 0, locals := 21 } : Room) s m args below meth c H locs 0 0 Q (F0 m 42 ls []) := by
    intro  n
    induction n with
    | zero => intro v1 v2 v3 H locs ls hS hl hF; exact nomatch (show (none : Option (Int32)) = some _ from hF)
    | succ n ih => intro v1 v2 v3 H locs ls hS hl hF; exact S42  _ ih v1 v2 v3 H locs ls hS hl hF
  have B32 : ∀ (K4 : Int32 → Int32 → Int32 → Option (Int32)) (_ : ∀ (v1 : Int32) (v2 : Int32) (v3 : Int32) (H : Heap) (locs : List Loc) (ls : Array Slot), HS D A H0 [(h_0, oX4 h_0_rules h_0_lies h_0_tops h_0_list T_0), (h_0_lies, eI cI 16 (T_0 1)), (h_0_tops, eI cI 10 (T_0 2)), (h_0_list, eI cI 160 (T_0 3)), (h_0_rules, oX1 r_0_rules)] H locs → lv_has ls 4 [(0, .ref h_0), (1, .int v1), (2, .int v2), (3, .int v3)] → K4 v1 v2 v3 = some rv → W p l e ({ frames := 1, cells := 0, slots := 0, locals := 21 } : Room) s m args below meth c H locs 0 0 Q (F0 m 4 ls [])) (v1 : Int32) (v3 : Int32) (s0 : Int32) (s1 : Int32) (H : Heap) (locs : List Loc) (ls : Array Slot), HS D A H0 [(h_0, oX4 h_0_rules h_0_lies h_0_tops h_0_list T_0), (h_0_lies, eI cI 16 (T_0 1)), (h_0_tops, eI cI 10 (T_0 2)), (h_0_list, eI cI 160 (T_0 3)), (h_0_rules, oX1 r_0_rules)] H locs → lv_has ls 4 [(0, .ref h_0), (1, .int v1), (3, .int v3)] → F_X4_mostTo_b32 T_0 r_0_rules K4 v1 v3 s0 s1 = some rv → W p l e ({ frames := 1, cells := 0, slots := 0, locals := 21 } : Room) s m args below meth c H locs 0 0 Q (F0 m 32 ls [.int s1, .int s0]) := by
    intro K4 hK4 v1 v3 s0 s1 H locs ls hS hl hF
    unfold F_X4_mostTo_b32 at hF
    refine lv_iadd hx hb dX4_mostTo_32 ?_
    refine lv_istore_n (lv' := [(2, .int (s0 + s1)), (0, .ref h_0), (1, .int v1), (3, .int v3)]) hx hb dX4_mostTo_33 rfl hl (by decide) rfl (fun ls hl => ?_)
    refine lv_iinc (v := v3 + (nI 1)) (lv' := [(3, .int (v3 + (nI 1))), (2, .int (s0 + s1)), (0, .ref h_0), (1, .int v1)]) hx hb dX4_mostTo_34 hl (k := 3) rfl rfl (by decide) rfl (fun ls hl => ?_)
    refine lv_goto (tgt := 4) hx hb dX4_mostTo_37 (by decide) ?_
    exact hK4 v1 (s0 + s1) (v3 + (nI 1)) _ _ _ hS (lv_sub hl [2, 3, 1, 0] rfl) hF
  have S4 : ∀ (K4 : Int32 → Int32 → Int32 → Option (Int32)) (_ : ∀ (v1 : Int32) (v2 : Int32) (v3 : Int32) (H : Heap) (locs : List Loc) (ls : Array Slot), HS D A H0 [(h_0, oX4 h_0_rules h_0_lies h_0_tops h_0_list T_0), (h_0_lies, eI cI 16 (T_0 1)), (h_0_tops, eI cI 10 (T_0 2)), (h_0_list, eI cI 160 (T_0 3)), (h_0_rules, oX1 r_0_rules)] H locs → lv_has ls 4 [(0, .ref h_0), (1, .int v1), (2, .int v2), (3, .int v3)] → K4 v1 v2 v3 = some rv → W p l e ({ frames := 1, cells := 0, slots := 0, locals := 21 } : Room) s m args below meth c H locs 0 0 Q (F0 m 4 ls [])) (v1 : Int32) (v2 : Int32) (v3 : Int32) (H : Heap) (locs : List Loc) (ls : Array Slot), HS D A H0 [(h_0, oX4 h_0_rules h_0_lies h_0_tops h_0_list T_0), (h_0_lies, eI cI 16 (T_0 1)), (h_0_tops, eI cI 10 (T_0 2)), (h_0_list, eI cI 160 (T_0 3)), (h_0_rules, oX1 r_0_rules)] H locs → lv_has ls 4 [(0, .ref h_0), (1, .int v1), (2, .int v2), (3, .int v3)] → F_X4_mostTo_s4 T_0 r_0_rules K4 v1 v2 v3 = some rv → W p l e ({ frames := 1, cells := 0, slots := 0, locals := 21 } : Room) s m args below meth c H locs 0 0 Q (F0 m 4 ls []) := by
    intro K4 hK4 v1 v2 v3 H locs ls hS hl hF
    unfold F_X4_mostTo_s4 at hF
    refine lv_iload_n hx hb dX4_mostTo_4 rfl (lv_at hl 3 rfl) ?_
    refine lv_iconst (v := (nI 5)) hx hb dX4_mostTo_5 (by decide) ?_
    refine lv_aload_n hx hb dX4_mostTo_6 rfl (lv_at hl 0 rfl) ?_
    refine r_get hx hb hts inX4 hown hK hS 0 0 rfl rfl (by decide) q0 rfl dX4_mostTo_7 ?_
    refine r_get hx hb hts inX1 hown hK hS 4 3 rfl rfl (by decide) q4 rfl dX4_mostTo_10 ?_
    refine lv_iadd hx hb dX4_mostTo_13 ?_
    refine lv_icmp_ge (tgt := 40) hx hb dX4_mostTo_14 (by decide) (fun c_6 => ?_) (fun c_6 => ?_)
    · replace hF := ifp hF c_6
      refine lv_iconst (v := (nI 0)) hx hb dX4_mostTo_40 (by decide) ?_
      refine lv_istore_n (lv' := [(3, .int (nI 0)), (0, .ref h_0), (1, .int v1), (2, .int v2)]) hx hb dX4_mostTo_41 rfl hl (by decide) rfl (fun ls hl => ?_)
      exact L42 FU v1 v2 (nI 0) _ _ _ hS (lv_sub hl [1, 2, 3, 0] rfl) hF
    · replace hF := ifn hF c_6
      refine lv_iload_n hx hb dX4_mostTo_17 rfl (lv_at hl 2 rfl) ?_
      refine lv_aload_n hx hb dX4_mostTo_18 rfl (lv_at hl 0 rfl) ?_
      refine lv_iload_n hx hb dX4_mostTo_19 rfl (lv_at hl 3 rfl) ?_
      replace hF := cal1_e hF
      obtain ⟨x7, hc8, hF⟩ := hF
      refine kV_i (As := [.int v3]) (rest := [.int v2]) (wr := [(h_0_rules, oX1 r_0_rules)]) (w2 := [(h_0_rules, oX1 r_0_rules), (h_0, oX4 h_0_rules h_0_lies h_0_tops h_0_list T_0), (h_0_lies, eI cI 16 (T_0 1)), (h_0_tops, eI cI 10 (T_0 2)), (h_0_list, eI cI 160 (T_0 3))]) hCF hK (c_X4_topOf l D cI cJ h_0 h_0_lies h_0_tops h_0_list h_0_rules T_0 v3 x7 hc8) (cwV 1 hts (TBL_V mw_133 mw_134 mw_135 mw_17 mw_136) rfl rfl rfl pmX4_topOf ⟨Nat.le_of_ble_eq_true rfl, Nat.le_of_ble_eq_true rfl⟩) hS hA [0, 1, 2, 3] [4] rfl rfl rfl rfl (by decide) rfl rfl rfl hl.1 rfl (Nat.le_of_ble_eq_true rfl) ⟨Nat.zero_le _, Nat.zero_le _⟩ dX4_mostTo_20 rfl (fun H locs hS => ?_)
      refine lv_iconst (v := (-1)) hx hb dX4_mostTo_23 (by decide) ?_
      refine lv_icmp_ne (tgt := 31) hx hb dX4_mostTo_24 (by decide) (fun c_9 => ?_) (fun c_9 => ?_)
      · replace hF := ifn hF c_9
        refine lv_iconst (v := (nI 0)) hx hb dX4_mostTo_31 (by decide) ?_
        exact B32 K4 hK4 v1 v3 v2 (nI 0) _ _ _ (hS.sub [1, 2, 3, 4, 0] rfl rfl) (lv_sub hl [0, 1, 3] rfl) hF
      · replace hF := ifp hF c_9
        refine lv_iconst (v := (nI 1)) hx hb dX4_mostTo_27 (by decide) ?_
        refine lv_goto (tgt := 32) hx hb dX4_mostTo_28 (by decide) ?_
        exact B32 K4 hK4 v1 v3 v2 (nI 1) _ _ _ (hS.sub [1, 2, 3, 4, 0] rfl rfl) (lv_sub hl [0, 1, 3] rfl) hF
  have L4 : ∀  (n : Nat) (v1 : Int32) (v2 : Int32) (v3 : Int32) (H : Heap) (locs : List Loc) (ls : Array Slot), HS D A H0 [(h_0, oX4 h_0_rules h_0_lies h_0_tops h_0_list T_0), (h_0_lies, eI cI 16 (T_0 1)), (h_0_tops, eI cI 10 (T_0 2)), (h_0_list, eI cI 160 (T_0 3)), (h_0_rules, oX1 r_0_rules)] H locs → lv_has ls 4 [(0, .ref h_0), (1, .int v1), (2, .int v2), (3, .int v3)] → F_X4_mostTo_L4 T_0 r_0_rules  n v1 v2 v3 = some rv → W p l e ({ frames := 1, cells := 0, slots := 0, locals := 21 } : Room) s m args below meth c H locs 0 0 Q (F0 m 4 ls []) := by
    intro  n
    induction n with
    | zero => intro v1 v2 v3 H locs ls hS hl hF; exact nomatch (show (none : Option (Int32)) = some _ from hF)
    | succ n ih => intro v1 v2 v3 H locs ls hS hl hF; exact S4  _ ih v1 v2 v3 H locs ls hS hl hF
  unfold F_X4_mostTo at hF
  refine lv_iconst (v := (nI 1)) hx hb dX4_mostTo_0 (by decide) ?_
  refine lv_istore_n (lv' := [(2, .int (nI 1)), (0, .ref h_0), (1, .int v1)]) hx hb dX4_mostTo_1 rfl hl (by decide) rfl (fun ls hl => ?_)
  refine lv_iconst (v := (nI 5)) hx hb dX4_mostTo_2 (by decide) ?_
  refine lv_istore_n (lv' := [(3, .int (nI 5)), (2, .int (nI 1)), (0, .ref h_0), (1, .int v1)]) hx hb dX4_mostTo_3 rfl hl (by decide) rfl (fun ls hl => ?_)
  exact L4 FU v1 (nI 1) (nI 5) _ _ _ hS (lv_sub hl [2, 3, 1, 0] rfl) hF
set_option maxHeartbeats 4000000 in
set_option maxRecDepth 100000 in
theorem c_X4_fromTop (l : Launch) (D : va_G) (cI cJ : ClassId) (h_0 h_0_lies h_0_tops h_0_list g_0_rules : Nat) (T_0 : Nat → Nat → Int32) (v1 : Int32) (v2 : Int32) (rv : Int32) (hF : F_X4_fromTop T_0 v1 v2 = some rv) : CtI l D [(cI, .int), (cJ, .long)] yX4_fromTop wtX4_fromTop ({ frames := 1, cells := 0, slots := 0, locals := 22 } : Room) [.ref h_0, .int v1, .int v2] [(h_0, oX4 g_0_rules h_0_lies h_0_tops h_0_list T_0), (h_0_lies, eI cI 16 (T_0 1)), (h_0_tops, eI cI 10 (T_0 2)), (h_0_list, eI cI 160 (T_0 3))] [(h_0, oX4 g_0_rules h_0_lies h_0_tops h_0_list T_0), (h_0_lies, eI cI 16 (T_0 1)), (h_0_tops, eI cI 10 (T_0 2)), (h_0_list, eI cI 160 (T_0 3))] rv := by
  refine CtI.of (cc := cX4_fromTop) (maxL := 6) (by decide) rfl (Nat.le_of_ble_eq_true rfl) ?_
  intro p e s m args below meth c A H0 Q ls X hS hl kret
  have hCF := X.1
  obtain ⟨⟨hx, hb, hml, hown, hts⟩, hK, hA⟩ := X
  have hl : lv_has ls 6 [(0, .ref h_0), (1, .int v1), (2, .int v2)] := hl
  have q0 := hts (.methodLink RX4 87 Lib.Math.min.name) (List.mem_cons_of_mem _ mw_294)
  have q1 := hts (.static Lib.Math.min.name) (List.mem_cons_of_mem _ mw_102)
  have q2 := hts (.initialized "java/lang/Math") (List.mem_cons_of_mem _ mw_65)
  have q3 := hts (.code Lib.Math.min.name Lib.Math.min.code 2 (some .int)) (List.mem_cons_of_mem _ mw_103)
  have S17 : ∀ (K17 : Int32 → Int32 → Int32 → Option (Int32)) (_ : ∀ (v3 : Int32) (v4 : Int32) (v5 : Int32) (H : Heap) (locs : List Loc) (ls : Array Slot), HS D A H0 [(h_0, oX4 g_0_rules h_0_lies h_0_tops h_0_list T_0), (h_0_lies, eI cI 16 (T_0 1)), (h_0_tops, eI cI 10 (T_0 2)), (h_0_list, eI cI 160 (T_0 3))] H locs → lv_has ls 6 [(0, .ref h_0), (3, .int v3), (4, .int v4), (5, .int v5)] → K17 v3 v4 v5 = some rv → W p l e ({ frames := 1, cells := 0, slots := 0, locals := 22 } : Room) s m args below meth c H locs 0 0 Q (F0 m 17 ls [])) (v3 : Int32) (v4 : Int32) (v5 : Int32) (H : Heap) (locs : List Loc) (ls : Array Slot), HS D A H0 [(h_0, oX4 g_0_rules h_0_lies h_0_tops h_0_list T_0), (h_0_lies, eI cI 16 (T_0 1)), (h_0_tops, eI cI 10 (T_0 2)), (h_0_list, eI cI 160 (T_0 3))] H locs → lv_has ls 6 [(0, .ref h_0), (3, .int v3), (4, .int v4), (5, .int v5)] → F_X4_fromTop_s17 T_0 K17 v3 v4 v5 = some rv → W p l e ({ frames := 1, cells := 0, slots := 0, locals := 22 } : Room) s m args below meth c H locs 0 0 Q (F0 m 17 ls []) := by
    intro K17 hK17 v3 v4 v5 H locs ls hS hl hF
    unfold F_X4_fromTop_s17 at hF
    refine lv_iload hx hb dX4_fromTop_17 (lv_at hl 3 rfl) ?_
    refine lv_iload hx hb dX4_fromTop_19 (lv_at hl 2 rfl) ?_
    refine lv_icmp_ge (tgt := 41) hx hb dX4_fromTop_21 (by decide) (fun c_1 => ?_) (fun c_1 => ?_)
    · replace hF := ifp hF c_1
      refine lv_iload_n hx hb dX4_fromTop_41 rfl (lv_at hl 1 rfl) ?_
      have e9_0 := Option.some.inj hF
      subst e9_0
      exact kret _ _ _ _ hS dX4_fromTop_42
    · replace hF := ifn hF c_1
      refine lv_iload_n hx hb dX4_fromTop_24 rfl (lv_at hl 1 rfl) ?_
      refine lv_iconst (v := (-1)) hx hb dX4_fromTop_25 (by decide) ?_
      refine lv_icmp_eq (tgt := 41) hx hb dX4_fromTop_26 (by decide) (fun c_2 => ?_) (fun c_2 => ?_)
      · replace hF := ifp hF c_2
        refine lv_iload_n hx hb dX4_fromTop_41 rfl (lv_at hl 1 rfl) ?_
        have e9_0 := Option.some.inj hF
        subst e9_0
        exact kret _ _ _ _ hS dX4_fromTop_42
      · replace hF := ifn hF c_2
        refine lv_aload_n hx hb dX4_fromTop_29 rfl (lv_at hl 0 rfl) ?_
        refine lv_iload_n hx hb dX4_fromTop_30 rfl (lv_at hl 1 rfl) ?_
        replace hF := cal1_e hF
        obtain ⟨x3, hc4, hF⟩ := hF
        refine kV_i (As := [.int v3]) (rest := []) (wr := []) (w2 := [(h_0, oX4 g_0_rules h_0_lies h_0_tops h_0_list T_0), (h_0_lies, eI cI 16 (T_0 1)), (h_0_tops, eI cI 10 (T_0 2)), (h_0_list, eI cI 160 (T_0 3))]) hCF hK (c_X4_under l D cI cJ h_0 h_0_lies h_0_tops h_0_list g_0_rules T_0 v3 x3 hc4) (cwV 1 hts (TBL_V mw_249 mw_250 mw_251 mw_17 mw_252) rfl rfl rfl pmX4_under ⟨Nat.le_of_ble_eq_true rfl, Nat.le_of_ble_eq_true rfl⟩) hS hA [0, 1, 2, 3] [] rfl rfl rfl rfl (by decide) rfl rfl rfl hl.1 rfl (Nat.le_of_ble_eq_true rfl) ⟨Nat.zero_le _, Nat.zero_le _⟩ dX4_fromTop_31 rfl (fun H locs hS => ?_)
        refine lv_istore_n (lv' := [(3, .int x3), (0, .ref h_0), (4, .int v4), (5, .int v5)]) hx hb dX4_fromTop_34 rfl hl (by decide) rfl (fun ls hl => ?_)
        refine lv_iinc (v := v5 + (nI 1)) (lv' := [(5, .int (v5 + (nI 1))), (3, .int x3), (0, .ref h_0), (4, .int v4)]) hx hb dX4_fromTop_35 hl (k := 3) rfl rfl (by decide) rfl (fun ls hl => ?_)
        refine lv_goto (tgt := 17) hx hb dX4_fromTop_38 (by decide) ?_
        exact hK17 x3 v4 (v5 + (nI 1)) _ _ _ hS (lv_sub hl [2, 1, 3, 0] rfl) hF
  have L17 : ∀  (n : Nat) (v3 : Int32) (v4 : Int32) (v5 : Int32) (H : Heap) (locs : List Loc) (ls : Array Slot), HS D A H0 [(h_0, oX4 g_0_rules h_0_lies h_0_tops h_0_list T_0), (h_0_lies, eI cI 16 (T_0 1)), (h_0_tops, eI cI 10 (T_0 2)), (h_0_list, eI cI 160 (T_0 3))] H locs → lv_has ls 6 [(0, .ref h_0), (3, .int v3), (4, .int v4), (5, .int v5)] → F_X4_fromTop_L17 T_0  n v3 v4 v5 = some rv → W p l e ({ frames := 1, cells := 0, slots := 0, locals := 22 } : Room) s m args below meth c H locs 0 0 Q (F0 m 17 ls []) := by
    intro  n
    induction n with
    | zero => intro v3 v4 v5 H locs ls hS hl hF; exact nomatch (show (none : Option (Int32)) = some _ from hF)
    | succ n ih => intro v3 v4 v5 H locs ls hS hl hF; exact S17  _ ih v3 v4 v5 H locs ls hS hl hF
  unfold F_X4_fromTop at hF
  refine lv_aload_n hx hb dX4_fromTop_0 rfl (lv_at hl 0 rfl) ?_
  refine lv_iload_n hx hb dX4_fromTop_1 rfl (lv_at hl 1 rfl) ?_
  replace hF := cal1_e hF
  obtain ⟨x5, hc6, hF⟩ := hF
  refine kV_i (As := [.int v1]) (rest := []) (wr := []) (w2 := [(h_0, oX4 g_0_rules h_0_lies h_0_tops h_0_list T_0), (h_0_lies, eI cI 16 (T_0 1)), (h_0_tops, eI cI 10 (T_0 2)), (h_0_list, eI cI 160 (T_0 3))]) hCF hK (c_X4_topOf l D cI cJ h_0 h_0_lies h_0_tops h_0_list g_0_rules T_0 v1 x5 hc6) (cwV 1 hts (TBL_V mw_133 mw_134 mw_135 mw_17 mw_136) rfl rfl rfl pmX4_topOf ⟨Nat.le_of_ble_eq_true rfl, Nat.le_of_ble_eq_true rfl⟩) hS hA [0, 1, 2, 3] [] rfl rfl rfl rfl (by decide) rfl rfl rfl hl.1 rfl (Nat.le_of_ble_eq_true rfl) ⟨Nat.zero_le _, Nat.zero_le _⟩ dX4_fromTop_2 rfl (fun H locs hS => ?_)
  refine lv_istore_n (lv' := [(3, .int x5), (0, .ref h_0), (1, .int v1), (2, .int v2)]) hx hb dX4_fromTop_5 rfl hl (by decide) rfl (fun ls hl => ?_)
  refine lv_iload_n hx hb dX4_fromTop_6 rfl (lv_at hl 3 rfl) ?_
  refine lv_bipush (v := (nI 16)) hx hb dX4_fromTop_7 (by decide) ?_
  refine va_mmin hx hb (hml.trans hl.1.symm) hown q0 q1 q2 q3 (by decide) (by decide) (Nat.zero_le _) (Nat.zero_le _) dX4_fromTop_9 ?_
  refine lv_istore (lv' := [(4, .int (if (nI 16) < v2 then (nI 16) else v2)), (3, .int x5), (0, .ref h_0), (1, .int v1), (2, .int v2)]) hx hb dX4_fromTop_12 hl (by decide) rfl (fun ls hl => ?_)
  refine lv_iconst (v := (nI 0)) hx hb dX4_fromTop_14 (by decide) ?_
  refine lv_istore (lv' := [(5, .int (nI 0)), (4, .int (if (nI 16) < v2 then (nI 16) else v2)), (3, .int x5), (0, .ref h_0), (1, .int v1), (2, .int v2)]) hx hb dX4_fromTop_15 hl (by decide) rfl (fun ls hl => ?_)
  exact L17 FU x5 (if (nI 16) < v2 then (nI 16) else v2) (nI 0) _ _ _ hS (lv_sub hl [3, 2, 1, 0] rfl) hF
set_option maxHeartbeats 4000000 in
set_option maxRecDepth 100000 in
theorem c_X4_isForColumn (l : Launch) (D : va_G) (cI cJ : ClassId) (h_0 h_0_lies h_0_tops h_0_list h_0_rules : Nat) (T_0 : Nat → Nat → Int32) (r_0_rules : Nat → Int32) (v1 : Int32) (v2 : Int32) (rv : Int32) (hF : F_X4_isForColumn T_0 r_0_rules v1 v2 = some rv) : CtI l D [(cI, .int), (cJ, .long)] yX4_isForColumn wtX4_isForColumn ({ frames := 2, cells := 0, slots := 0, locals := 43 } : Room) [.ref h_0, .int v1, .int v2] [(h_0, oX4 h_0_rules h_0_lies h_0_tops h_0_list T_0), (h_0_lies, eI cI 16 (T_0 1)), (h_0_tops, eI cI 10 (T_0 2)), (h_0_list, eI cI 160 (T_0 3)), (h_0_rules, oX1 r_0_rules)] [(h_0, oX4 h_0_rules h_0_lies h_0_tops h_0_list T_0), (h_0_lies, eI cI 16 (T_0 1)), (h_0_tops, eI cI 10 (T_0 2)), (h_0_list, eI cI 160 (T_0 3)), (h_0_rules, oX1 r_0_rules)] rv := by
  refine CtZ.of (cc := cX4_isForColumn) (maxL := 4) (by decide) rfl (Nat.le_of_ble_eq_true rfl) ?_
  intro p e s m args below meth c A H0 Q ls X hS hl kret
  have hCF := X.1
  obtain ⟨⟨hx, hb, hml, hown, hts⟩, hK, hA⟩ := X
  have hl : lv_has ls 4 [(0, .ref h_0), (1, .int v1), (2, .int v2)] := hl
  have q0 := hts (.fieldLink RX4 12 "Patiencery$Table" "rules" "LPatiencery$Rules;") (List.mem_cons_of_mem _ mw_51)
  have inX4 : ∀ w ∈ u_ws RX4 TX4 7, w ∈ wtX4_isForColumn := fun w h => List.mem_cons_of_mem _ (inlX4 w h)
  unfold F_X4_isForColumn at hF
  refine lv_aload_n hx hb dX4_isForColumn_0 rfl (lv_at hl 0 rfl) ?_
  refine lv_iload_n hx hb dX4_isForColumn_1 rfl (lv_at hl 2 rfl) ?_
  replace hF := cal1_e hF
  obtain ⟨x1, hc2, hF⟩ := hF
  refine kV_i (As := [.int v2]) (rest := []) (wr := [(h_0_rules, oX1 r_0_rules)]) (w2 := [(h_0_rules, oX1 r_0_rules), (h_0, oX4 h_0_rules h_0_lies h_0_tops h_0_list T_0), (h_0_lies, eI cI 16 (T_0 1)), (h_0_tops, eI cI 10 (T_0 2)), (h_0_list, eI cI 160 (T_0 3))]) hCF hK (c_X4_topOf l D cI cJ h_0 h_0_lies h_0_tops h_0_list h_0_rules T_0 v2 x1 hc2) (cwV 1 hts (TBL_V mw_133 mw_134 mw_135 mw_17 mw_136) rfl rfl rfl pmX4_topOf ⟨Nat.le_of_ble_eq_true rfl, Nat.le_of_ble_eq_true rfl⟩) hS hA [0, 1, 2, 3] [4] rfl rfl rfl rfl (by decide) rfl rfl rfl hl.1 rfl (Nat.le_of_ble_eq_true rfl) ⟨Nat.zero_le _, Nat.zero_le _⟩ dX4_isForColumn_2 rfl (fun H locs hS => ?_)
  refine lv_istore_n (lv' := [(3, .int x1), (0, .ref h_0), (1, .int v1), (2, .int v2)]) hx hb dX4_isForColumn_5 rfl hl (by decide) rfl (fun ls hl => ?_)
  refine lv_iload_n hx hb dX4_isForColumn_6 rfl (lv_at hl 0 rfl) ?_
  refine lv_iconst (v := (-1)) hx hb dX4_isForColumn_7 (by decide) ?_
  refine lv_icmp_ne (tgt := 22) hx hb dX4_isForColumn_8 (by decide) (fun c_3 => ?_) (fun c_3 => ?_)
  · replace hF := ifn hF c_3
    refine lv_aload_n hx hb dX4_isForColumn_22 rfl (lv_at hl 1 rfl) ?_
    refine r_get hx hb hts inX4 hown hK hS 1 0 rfl rfl (by decide) q0 rfl dX4_isForColumn_23 ?_
    refine lv_iload_n hx hb dX4_isForColumn_26 rfl (lv_at hl 2 rfl) ?_
    refine lv_iload_n hx hb dX4_isForColumn_27 rfl (lv_at hl 0 rfl) ?_
    replace hF := cal1_e hF
    obtain ⟨x4, hc5, hF⟩ := hF
    refine kV_i (As := [.int v1, .int x1]) (rest := []) (wr := [(h_0, oX4 h_0_rules h_0_lies h_0_tops h_0_list T_0), (h_0_lies, eI cI 16 (T_0 1)), (h_0_tops, eI cI 10 (T_0 2)), (h_0_list, eI cI 160 (T_0 3))]) (w2 := [(h_0, oX4 h_0_rules h_0_lies h_0_tops h_0_list T_0), (h_0_lies, eI cI 16 (T_0 1)), (h_0_tops, eI cI 10 (T_0 2)), (h_0_list, eI cI 160 (T_0 3)), (h_0_rules, oX1 r_0_rules)]) hCF hK (c_X1_isFitting l D cI cJ h_0_rules r_0_rules v1 x1 x4 hc5) (cwV 2 hts (TBL_V mw_257 mw_258 mw_259 mw_12 mw_260) rfl rfl rfl pmX1_isFitting ⟨Nat.le_of_ble_eq_true rfl, Nat.le_of_ble_eq_true rfl⟩) hS hA [0] [1, 2, 3, 4] rfl rfl rfl rfl (by decide) rfl rfl rfl hl.1 rfl (Nat.le_of_ble_eq_true rfl) ⟨Nat.zero_le _, Nat.zero_le _⟩ dX4_isForColumn_28 rfl (fun H locs hS => ?_)
    replace hF := zb_e hF
    obtain ⟨h01_6, hF⟩ := hF
    have e9_0 := Option.some.inj hF
    subst e9_0
    exact kret _ _ _ _ h01_6 hS dX4_isForColumn_31
  · replace hF := ifp hF c_3
    refine lv_aload_n hx hb dX4_isForColumn_11 rfl (lv_at hl 1 rfl) ?_
    refine r_get hx hb hts inX4 hown hK hS 1 0 rfl rfl (by decide) q0 rfl dX4_isForColumn_12 ?_
    refine lv_iload_n hx hb dX4_isForColumn_15 rfl (lv_at hl 2 rfl) ?_
    replace hF := cal1_e hF
    obtain ⟨x7, hc8, hF⟩ := hF
    refine kV_i (As := [.int v1]) (rest := []) (wr := [(h_0, oX4 h_0_rules h_0_lies h_0_tops h_0_list T_0), (h_0_lies, eI cI 16 (T_0 1)), (h_0_tops, eI cI 10 (T_0 2)), (h_0_list, eI cI 160 (T_0 3))]) (w2 := [(h_0, oX4 h_0_rules h_0_lies h_0_tops h_0_list T_0), (h_0_lies, eI cI 16 (T_0 1)), (h_0_tops, eI cI 10 (T_0 2)), (h_0_list, eI cI 160 (T_0 3)), (h_0_rules, oX1 r_0_rules)]) hCF hK (c_X1_isForEmptyColumns l D cI cJ h_0_rules r_0_rules v1 x7 hc8) (cwV 1 hts (TBL_V mw_299 mw_300 mw_301 mw_12 mw_302) rfl rfl rfl pmX1_isForEmptyColumns ⟨Nat.le_of_ble_eq_true rfl, Nat.le_of_ble_eq_true rfl⟩) hS hA [0] [1, 2, 3, 4] rfl rfl rfl rfl (by decide) rfl rfl rfl hl.1 rfl (Nat.le_of_ble_eq_true rfl) ⟨Nat.zero_le _, Nat.zero_le _⟩ dX4_isForColumn_16 rfl (fun H locs hS => ?_)
    refine lv_goto (tgt := 31) hx hb dX4_isForColumn_19 (by decide) ?_
    replace hF := zb_e hF
    obtain ⟨h01_9, hF⟩ := hF
    have e9_0 := Option.some.inj hF
    subst e9_0
    exact kret _ _ _ _ h01_9 hS dX4_isForColumn_31
set_option maxHeartbeats 4000000 in
set_option maxRecDepth 100000 in
theorem c_X4_isMove (l : Launch) (D : va_G) (cI cJ : ClassId) (h_0 h_0_lies h_0_tops h_0_list h_0_rules : Nat) (T_0 : Nat → Nat → Int32) (r_0_rules : Nat → Int32) (v1 : Int32) (v2 : Int32) (v3 : Int32) (rv : Int32) (hF : F_X4_isMove T_0 r_0_rules v1 v2 v3 = some rv) : CtI l D [(cI, .int), (cJ, .long)] yX4_isMove wtX4_isMove ({ frames := 3, cells := 0, slots := 0, locals := 67 } : Room) [.ref h_0, .int v1, .int v2, .int v3] [(h_0, oX4 h_0_rules h_0_lies h_0_tops h_0_list T_0), (h_0_lies, eI cI 16 (T_0 1)), (h_0_tops, eI cI 10 (T_0 2)), (h_0_list, eI cI 160 (T_0 3)), (h_0_rules, oX1 r_0_rules)] [(h_0, oX4 h_0_rules h_0_lies h_0_tops h_0_list T_0), (h_0_lies, eI cI 16 (T_0 1)), (h_0_tops, eI cI 10 (T_0 2)), (h_0_list, eI cI 160 (T_0 3)), (h_0_rules, oX1 r_0_rules)] rv := by
  refine CtZ.of (cc := cX4_isMove) (maxL := 5) (by decide) rfl (Nat.le_of_ble_eq_true rfl) ?_
  intro p e s m args below meth c A H0 Q ls X hS hl kret
  have hCF := X.1
  obtain ⟨⟨hx, hb, hml, hown, hts⟩, hK, hA⟩ := X
  have hl : lv_has ls 5 [(0, .ref h_0), (1, .int v1), (2, .int v2), (3, .int v3)] := hl
  have q0 := hts (.fieldLink RX4 12 "Patiencery$Table" "rules" "LPatiencery$Rules;") (List.mem_cons_of_mem _ mw_51)
  have inX4 : ∀ w ∈ u_ws RX4 TX4 7, w ∈ wtX4_isMove := fun w h => List.mem_cons_of_mem _ (inlX4 w h)
  have q2 := hts (.fieldLink RX4 57 "Patiencery$Rules" "columns" "I") (List.mem_cons_of_mem _ mw_121)
  have inX1 : ∀ w ∈ u_ws RX1 TX1 9, w ∈ wtX4_isMove := fun w h => List.mem_cons_of_mem _ (inlX1 w h)
  have q4 := hts (.fieldLink RX4 130 "Patiencery$Rules" "cells" "I") (List.mem_cons_of_mem _ mw_273)
  have B145 : ∀ (v1 : Int32) (v2 : Int32) (v3 : Int32) (H : Heap) (locs : List Loc) (ls : Array Slot), HS D A H0 [(h_0, oX4 h_0_rules h_0_lies h_0_tops h_0_list T_0), (h_0_lies, eI cI 16 (T_0 1)), (h_0_tops, eI cI 10 (T_0 2)), (h_0_list, eI cI 160 (T_0 3)), (h_0_rules, oX1 r_0_rules)] H locs → lv_has ls 5 [(0, .ref h_0), (1, .int v1), (2, .int v2), (3, .int v3)] → F_X4_isMove_b145 T_0 r_0_rules  v1 v2 v3 = some rv → W p l e ({ frames := 3, cells := 0, slots := 0, locals := 67 } : Room) s m args below meth c H locs 0 0 Q (F0 m 145 ls []) := by
    intro v1 v2 v3 H locs ls hS hl hF
    unfold F_X4_isMove_b145 at hF
    refine lv_aload_n hx hb dX4_isMove_145 rfl (lv_at hl 0 rfl) ?_
    refine lv_aload_n hx hb dX4_isMove_146 rfl (lv_at hl 0 rfl) ?_
    refine lv_iload_n hx hb dX4_isMove_147 rfl (lv_at hl 1 rfl) ?_
    refine lv_iload_n hx hb dX4_isMove_148 rfl (lv_at hl 3 rfl) ?_
    refine lv_iconst (v := (nI 1)) hx hb dX4_isMove_149 (by decide) ?_
    refine lv_isub hx hb dX4_isMove_150 ?_
    replace hF := cal1_e hF
    obtain ⟨x1, hc2, hF⟩ := hF
    refine kV_i (As := [.int v1, .int (v3 - (nI 1))]) (rest := [.ref h_0]) (wr := [(h_0_rules, oX1 r_0_rules)]) (w2 := [(h_0_rules, oX1 r_0_rules), (h_0, oX4 h_0_rules h_0_lies h_0_tops h_0_list T_0), (h_0_lies, eI cI 16 (T_0 1)), (h_0_tops, eI cI 10 (T_0 2)), (h_0_list, eI cI 160 (T_0 3))]) hCF hK (c_X4_fromTop l D cI cJ h_0 h_0_lies h_0_tops h_0_list h_0_rules T_0 v1 (v3 - (nI 1)) x1 hc2) (cwV 2 hts (TBL_V mw_290 mw_291 mw_292 mw_17 mw_293) rfl rfl rfl pmX4_fromTop ⟨Nat.le_of_ble_eq_true rfl, Nat.le_of_ble_eq_true rfl⟩) hS hA [0, 1, 2, 3] [4] rfl rfl rfl rfl (by decide) rfl rfl rfl hl.1 rfl (Nat.le_of_ble_eq_true rfl) ⟨Nat.zero_le _, Nat.zero_le _⟩ dX4_isMove_151 rfl (fun H locs hS => ?_)
    refine lv_iload_n hx hb dX4_isMove_154 rfl (lv_at hl 2 rfl) ?_
    replace hF := cal1_e hF
    obtain ⟨x3, hc4, hF⟩ := hF
    refine kV_i (As := [.int x1, .int v2]) (rest := []) (wr := []) (w2 := [(h_0, oX4 h_0_rules h_0_lies h_0_tops h_0_list T_0), (h_0_lies, eI cI 16 (T_0 1)), (h_0_tops, eI cI 10 (T_0 2)), (h_0_list, eI cI 160 (T_0 3)), (h_0_rules, oX1 r_0_rules)]) hCF hK (c_X4_isForColumn l D cI cJ h_0 h_0_lies h_0_tops h_0_list h_0_rules T_0 r_0_rules x1 v2 x3 hc4) (cwV 2 hts (TBL_V mw_295 mw_296 mw_297 mw_17 mw_298) rfl rfl rfl pmX4_isForColumn ⟨Nat.le_of_ble_eq_true rfl, Nat.le_of_ble_eq_true rfl⟩) hS hA [1, 2, 3, 4, 0] [] rfl rfl rfl rfl (by decide) rfl rfl rfl hl.1 rfl (Nat.le_of_ble_eq_true rfl) ⟨Nat.zero_le _, Nat.zero_le _⟩ dX4_isMove_155 rfl (fun H locs hS => ?_)
    replace hF := zb_e hF
    obtain ⟨h01_5, hF⟩ := hF
    have e9_0 := Option.some.inj hF
    subst e9_0
    exact kret _ _ _ _ h01_5 hS dX4_isMove_158
  unfold F_X4_isMove at hF
  refine lv_iload_n hx hb dX4_isMove_0 rfl (lv_at hl 1 rfl) ?_
  refine lv_bipush (v := (nI 9)) hx hb dX4_isMove_1 (by decide) ?_
  refine lv_icmp_ne (tgt := 25) hx hb dX4_isMove_3 (by decide) (fun c_6 => ?_) (fun c_6 => ?_)
  · replace hF := ifn hF c_6
    refine lv_aload_n hx hb dX4_isMove_25 rfl (lv_at hl 0 rfl) ?_
    refine lv_iload_n hx hb dX4_isMove_26 rfl (lv_at hl 1 rfl) ?_
    replace hF := cal1_e hF
    obtain ⟨x7, hc8, hF⟩ := hF
    refine kV_i (As := [.int v1]) (rest := []) (wr := [(h_0_rules, oX1 r_0_rules)]) (w2 := [(h_0_rules, oX1 r_0_rules), (h_0, oX4 h_0_rules h_0_lies h_0_tops h_0_list T_0), (h_0_lies, eI cI 16 (T_0 1)), (h_0_tops, eI cI 10 (T_0 2)), (h_0_list, eI cI 160 (T_0 3))]) hCF hK (c_X4_topOf l D cI cJ h_0 h_0_lies h_0_tops h_0_list h_0_rules T_0 v1 x7 hc8) (cwV 1 hts (TBL_V mw_133 mw_134 mw_135 mw_17 mw_136) rfl rfl rfl pmX4_topOf ⟨Nat.le_of_ble_eq_true rfl, Nat.le_of_ble_eq_true rfl⟩) hS hA [0, 1, 2, 3] [4] rfl rfl rfl rfl (by decide) rfl rfl rfl hl.1 rfl (Nat.le_of_ble_eq_true rfl) ⟨Nat.zero_le _, Nat.zero_le _⟩ dX4_isMove_27 rfl (fun H locs hS => ?_)
    refine lv_istore (lv' := [(4, .int x7), (0, .ref h_0), (1, .int v1), (2, .int v2), (3, .int v3)]) hx hb dX4_isMove_30 hl (by decide) rfl (fun ls hl => ?_)
    refine lv_iload hx hb dX4_isMove_32 (lv_at hl 0 rfl) ?_
    refine lv_iconst (v := (-1)) hx hb dX4_isMove_34 (by decide) ?_
    refine lv_icmp_eq (tgt := 43) hx hb dX4_isMove_35 (by decide) (fun c_9 => ?_) (fun c_9 => ?_)
    · replace hF := ifp hF c_9
      refine lv_iconst (v := (nI 0)) hx hb dX4_isMove_43 (by decide) ?_
      replace hF := zb_e hF
      obtain ⟨h01_10, hF⟩ := hF
      have e9_0 := Option.some.inj hF
      subst e9_0
      exact kret _ _ _ _ h01_10 (hS.sub [1, 2, 3, 4, 0] rfl rfl) dX4_isMove_44
    · replace hF := ifn hF c_9
      refine lv_iload_n hx hb dX4_isMove_38 rfl (lv_at hl 2 rfl) ?_
      refine lv_iload_n hx hb dX4_isMove_39 rfl (lv_at hl 3 rfl) ?_
      refine lv_icmp_ne (tgt := 45) hx hb dX4_isMove_40 (by decide) (fun c_11 => ?_) (fun c_11 => ?_)
      · replace hF := ifn hF c_11
        refine lv_iload_n hx hb dX4_isMove_45 rfl (lv_at hl 3 rfl) ?_
        refine lv_bipush (v := (nI 8)) hx hb dX4_isMove_46 (by decide) ?_
        refine lv_icmp_ne (tgt := 58) hx hb dX4_isMove_48 (by decide) (fun c_12 => ?_) (fun c_12 => ?_)
        · replace hF := ifn hF c_12
          refine lv_iload_n hx hb dX4_isMove_58 rfl (lv_at hl 3 rfl) ?_
          replace hF := cal1_e hF
          obtain ⟨x13, hc14, hF⟩ := hF
          refine kN_i (As := [.int v2]) (rest := []) (wr := [(h_0_rules, oX1 r_0_rules), (h_0, oX4 h_0_rules h_0_lies h_0_tops h_0_list T_0), (h_0_lies, eI cI 16 (T_0 1)), (h_0_tops, eI cI 10 (T_0 2)), (h_0_list, eI cI 160 (T_0 3))]) (w2 := [(h_0_rules, oX1 r_0_rules), (h_0, oX4 h_0_rules h_0_lies h_0_tops h_0_list T_0), (h_0_lies, eI cI 16 (T_0 1)), (h_0_tops, eI cI 10 (T_0 2)), (h_0_list, eI cI 160 (T_0 3))]) hCF hK (c_X5_isCell l D cI cJ v2 x13 hc14) (cwN 1 hK hts (TBL_C mw_285) rfl rfl rfl (host := RX5) (List.mem_of_getElem? (i := 11) rfl) (List.mem_cons_of_mem _ mw_2) (List.mem_cons_of_mem _ mw_284) pmX5_isCell.2 ⟨Nat.le_of_ble_eq_true rfl, Nat.le_of_ble_eq_true rfl⟩) hS hA [] [0, 1, 2, 3, 4] rfl rfl rfl rfl (by decide) rfl hl.1 rfl (Nat.le_of_ble_eq_true rfl) ⟨Nat.zero_le _, Nat.zero_le _⟩ dX4_isMove_59 rfl (fun H locs hS => ?_)
          refine lv_if_eq (tgt := 100) hx hb dX4_isMove_62 (by decide) (fun c_15 => ?_) (fun c_15 => ?_)
          · replace hF := ifp hF c_15
            refine lv_iload_n hx hb dX4_isMove_100 rfl (lv_at hl 3 rfl) ?_
            replace hF := cal1_e hF
            obtain ⟨x16, hc17, hF⟩ := hF
            refine kN_i (As := [.int v2]) (rest := []) (wr := [(h_0_rules, oX1 r_0_rules), (h_0, oX4 h_0_rules h_0_lies h_0_tops h_0_list T_0), (h_0_lies, eI cI 16 (T_0 1)), (h_0_tops, eI cI 10 (T_0 2)), (h_0_list, eI cI 160 (T_0 3))]) (w2 := [(h_0_rules, oX1 r_0_rules), (h_0, oX4 h_0_rules h_0_lies h_0_tops h_0_list T_0), (h_0_lies, eI cI 16 (T_0 1)), (h_0_tops, eI cI 10 (T_0 2)), (h_0_list, eI cI 160 (T_0 3))]) hCF hK (c_X5_isColumn l D cI cJ v2 x16 hc17) (cwN 1 hK hts (TBL_C mw_244) rfl rfl rfl (host := RX5) (List.mem_of_getElem? (i := 12) rfl) (List.mem_cons_of_mem _ mw_2) (List.mem_cons_of_mem _ mw_243) pmX5_isColumn.2 ⟨Nat.le_of_ble_eq_true rfl, Nat.le_of_ble_eq_true rfl⟩) hS hA [] [0, 1, 2, 3, 4] rfl rfl rfl rfl (by decide) rfl hl.1 rfl (Nat.le_of_ble_eq_true rfl) ⟨Nat.zero_le _, Nat.zero_le _⟩ dX4_isMove_101 rfl (fun H locs hS => ?_)
            refine lv_if_eq (tgt := 118) hx hb dX4_isMove_104 (by decide) (fun c_18 => ?_) (fun c_18 => ?_)
            · replace hF := ifp hF c_18
              refine lv_iconst (v := (nI 0)) hx hb dX4_isMove_118 (by decide) ?_
              replace hF := zb_e hF
              obtain ⟨h01_19, hF⟩ := hF
              have e9_0 := Option.some.inj hF
              subst e9_0
              exact kret _ _ _ _ h01_19 (hS.sub [1, 2, 3, 4, 0] rfl rfl) dX4_isMove_119
            · replace hF := ifn hF c_18
              refine lv_iload_n hx hb dX4_isMove_107 rfl (lv_at hl 3 rfl) ?_
              refine lv_aload_n hx hb dX4_isMove_108 rfl (lv_at hl 1 rfl) ?_
              refine r_get hx hb hts inX4 hown hK hS 1 0 rfl rfl (by decide) q0 rfl dX4_isMove_109 ?_
              refine r_get hx hb hts inX1 hown hK hS 0 2 rfl rfl (by decide) q2 rfl dX4_isMove_112 ?_
              refine lv_icmp_lt (tgt := 120) hx hb dX4_isMove_115 (by decide) (fun c_20 => ?_) (fun c_20 => ?_)
              · replace hF := ifp hF c_20
                refine lv_iload_n hx hb dX4_isMove_120 rfl (lv_at hl 4 rfl) ?_
                refine lv_iconst (v := (nI 1)) hx hb dX4_isMove_121 (by decide) ?_
                refine lv_icmp_le (tgt := 145) hx hb dX4_isMove_122 (by decide) (fun c_21 => ?_) (fun c_21 => ?_)
                · replace hF := ifp hF c_21
                  exact B145 v1 v2 v3 _ _ _ (hS.sub [1, 2, 3, 4, 0] rfl rfl) (lv_sub hl [1, 2, 3, 4] rfl) hF
                · replace hF := ifn hF c_21
                  refine lv_iload_n hx hb dX4_isMove_125 rfl (lv_at hl 4 rfl) ?_
                  refine lv_aload_n hx hb dX4_isMove_126 rfl (lv_at hl 1 rfl) ?_
                  refine lv_iload_n hx hb dX4_isMove_127 rfl (lv_at hl 2 rfl) ?_
                  replace hF := cal1_e hF
                  obtain ⟨x22, hc23, hF⟩ := hF
                  refine kV_i (As := [.int v1]) (rest := [.int v3]) (wr := []) (w2 := [(h_0, oX4 h_0_rules h_0_lies h_0_tops h_0_list T_0), (h_0_lies, eI cI 16 (T_0 1)), (h_0_tops, eI cI 10 (T_0 2)), (h_0_list, eI cI 160 (T_0 3)), (h_0_rules, oX1 r_0_rules)]) hCF hK (c_X4_runOf l D cI cJ h_0 h_0_lies h_0_tops h_0_list h_0_rules T_0 r_0_rules v1 x22 hc23) (cwV 1 hts (TBL_V mw_245 mw_246 mw_247 mw_17 mw_248) rfl rfl rfl pmX4_runOf ⟨Nat.le_of_ble_eq_true rfl, Nat.le_of_ble_eq_true rfl⟩) hS hA [1, 2, 3, 4, 0] [] rfl rfl rfl rfl (by decide) rfl rfl rfl hl.1 rfl (Nat.le_of_ble_eq_true rfl) ⟨Nat.zero_le _, Nat.zero_le _⟩ dX4_isMove_128 rfl (fun H locs hS => ?_)
                  refine lv_icmp_gt (tgt := 143) hx hb dX4_isMove_131 (by decide) (fun c_24 => ?_) (fun c_24 => ?_)
                  · replace hF := ifp hF c_24
                    refine lv_iconst (v := (nI 0)) hx hb dX4_isMove_143 (by decide) ?_
                    replace hF := zb_e hF
                    obtain ⟨h01_25, hF⟩ := hF
                    have e9_0 := Option.some.inj hF
                    subst e9_0
                    exact kret _ _ _ _ h01_25 hS dX4_isMove_144
                  · replace hF := ifn hF c_24
                    refine lv_iload_n hx hb dX4_isMove_134 rfl (lv_at hl 4 rfl) ?_
                    refine lv_aload_n hx hb dX4_isMove_135 rfl (lv_at hl 1 rfl) ?_
                    refine lv_iload_n hx hb dX4_isMove_136 rfl (lv_at hl 3 rfl) ?_
                    replace hF := cal1_e hF
                    obtain ⟨x26, hc27, hF⟩ := hF
                    refine kV_i (As := [.int v2]) (rest := [.int v3]) (wr := []) (w2 := [(h_0, oX4 h_0_rules h_0_lies h_0_tops h_0_list T_0), (h_0_lies, eI cI 16 (T_0 1)), (h_0_tops, eI cI 10 (T_0 2)), (h_0_list, eI cI 160 (T_0 3)), (h_0_rules, oX1 r_0_rules)]) hCF hK (c_X4_mostTo l D cI cJ h_0 h_0_lies h_0_tops h_0_list h_0_rules T_0 r_0_rules v2 x26 hc27) (cwV 1 hts (TBL_V mw_286 mw_287 mw_288 mw_17 mw_289) rfl rfl rfl pmX4_mostTo ⟨Nat.le_of_ble_eq_true rfl, Nat.le_of_ble_eq_true rfl⟩) hS hA [0, 1, 2, 3, 4] [] rfl rfl rfl rfl (by decide) rfl rfl rfl hl.1 rfl (Nat.le_of_ble_eq_true rfl) ⟨Nat.zero_le _, Nat.zero_le _⟩ dX4_isMove_137 rfl (fun H locs hS => ?_)
                    refine lv_icmp_le (tgt := 145) hx hb dX4_isMove_140 (by decide) (fun c_28 => ?_) (fun c_28 => ?_)
                    · replace hF := ifp hF c_28
                      exact B145 v1 v2 v3 _ _ _ hS (lv_sub hl [1, 2, 3, 4] rfl) hF
                    · replace hF := ifn hF c_28
                      refine lv_iconst (v := (nI 0)) hx hb dX4_isMove_143 (by decide) ?_
                      replace hF := zb_e hF
                      obtain ⟨h01_29, hF⟩ := hF
                      have e9_0 := Option.some.inj hF
                      subst e9_0
                      exact kret _ _ _ _ h01_29 hS dX4_isMove_144
              · replace hF := ifn hF c_20
                refine lv_iconst (v := (nI 0)) hx hb dX4_isMove_118 (by decide) ?_
                replace hF := zb_e hF
                obtain ⟨h01_30, hF⟩ := hF
                have e9_0 := Option.some.inj hF
                subst e9_0
                exact kret _ _ _ _ h01_30 (hS.sub [1, 2, 3, 4, 0] rfl rfl) dX4_isMove_119
          · replace hF := ifn hF c_15
            refine lv_iload_n hx hb dX4_isMove_65 rfl (lv_at hl 2 rfl) ?_
            replace hF := cal1_e hF
            obtain ⟨x31, hc32, hF⟩ := hF
            refine kN_i (As := [.int v1]) (rest := []) (wr := [(h_0_rules, oX1 r_0_rules), (h_0, oX4 h_0_rules h_0_lies h_0_tops h_0_list T_0), (h_0_lies, eI cI 16 (T_0 1)), (h_0_tops, eI cI 10 (T_0 2)), (h_0_list, eI cI 160 (T_0 3))]) (w2 := [(h_0_rules, oX1 r_0_rules), (h_0, oX4 h_0_rules h_0_lies h_0_tops h_0_list T_0), (h_0_lies, eI cI 16 (T_0 1)), (h_0_tops, eI cI 10 (T_0 2)), (h_0_list, eI cI 160 (T_0 3))]) hCF hK (c_X5_isCell l D cI cJ v1 x31 hc32) (cwN 1 hK hts (TBL_C mw_285) rfl rfl rfl (host := RX5) (List.mem_of_getElem? (i := 11) rfl) (List.mem_cons_of_mem _ mw_2) (List.mem_cons_of_mem _ mw_284) pmX5_isCell.2 ⟨Nat.le_of_ble_eq_true rfl, Nat.le_of_ble_eq_true rfl⟩) hS hA [] [0, 1, 2, 3, 4] rfl rfl rfl rfl (by decide) rfl hl.1 rfl (Nat.le_of_ble_eq_true rfl) ⟨Nat.zero_le _, Nat.zero_le _⟩ dX4_isMove_66 rfl (fun H locs hS => ?_)
            refine lv_if_ne (tgt := 98) hx hb dX4_isMove_69 (by decide) (fun c_33 => ?_) (fun c_33 => ?_)
            · replace hF := ifn hF c_33
              refine lv_iconst (v := (nI 0)) hx hb dX4_isMove_98 (by decide) ?_
              replace hF := zb_e hF
              obtain ⟨h01_34, hF⟩ := hF
              have e9_0 := Option.some.inj hF
              subst e9_0
              exact kret _ _ _ _ h01_34 (hS.sub [1, 2, 3, 4, 0] rfl rfl) dX4_isMove_99
            · replace hF := ifp hF c_33
              refine lv_iload_n hx hb dX4_isMove_72 rfl (lv_at hl 3 rfl) ?_
              refine lv_iconst (v := (nI 5)) hx hb dX4_isMove_73 (by decide) ?_
              refine lv_isub hx hb dX4_isMove_74 ?_
              refine lv_aload_n hx hb dX4_isMove_75 rfl (lv_at hl 1 rfl) ?_
              refine r_get hx hb hts inX4 hown hK hS 1 0 rfl rfl (by decide) q0 rfl dX4_isMove_76 ?_
              refine r_get hx hb hts inX1 hown hK hS 0 3 rfl rfl (by decide) q4 rfl dX4_isMove_79 ?_
              refine lv_icmp_ge (tgt := 98) hx hb dX4_isMove_82 (by decide) (fun c_35 => ?_) (fun c_35 => ?_)
              · replace hF := ifp hF c_35
                refine lv_iconst (v := (nI 0)) hx hb dX4_isMove_98 (by decide) ?_
                replace hF := zb_e hF
                obtain ⟨h01_36, hF⟩ := hF
                have e9_0 := Option.some.inj hF
                subst e9_0
                exact kret _ _ _ _ h01_36 (hS.sub [1, 2, 3, 4, 0] rfl rfl) dX4_isMove_99
              · replace hF := ifn hF c_35
                refine lv_aload_n hx hb dX4_isMove_85 rfl (lv_at hl 1 rfl) ?_
                refine lv_iload_n hx hb dX4_isMove_86 rfl (lv_at hl 3 rfl) ?_
                replace hF := cal1_e hF
                obtain ⟨x37, hc38, hF⟩ := hF
                refine kV_i (As := [.int v2]) (rest := []) (wr := [(h_0_rules, oX1 r_0_rules)]) (w2 := [(h_0_rules, oX1 r_0_rules), (h_0, oX4 h_0_rules h_0_lies h_0_tops h_0_list T_0), (h_0_lies, eI cI 16 (T_0 1)), (h_0_tops, eI cI 10 (T_0 2)), (h_0_list, eI cI 160 (T_0 3))]) hCF hK (c_X4_topOf l D cI cJ h_0 h_0_lies h_0_tops h_0_list h_0_rules T_0 v2 x37 hc38) (cwV 1 hts (TBL_V mw_133 mw_134 mw_135 mw_17 mw_136) rfl rfl rfl pmX4_topOf ⟨Nat.le_of_ble_eq_true rfl, Nat.le_of_ble_eq_true rfl⟩) hS hA [1, 2, 3, 4] [0] rfl rfl rfl rfl (by decide) rfl rfl rfl hl.1 rfl (Nat.le_of_ble_eq_true rfl) ⟨Nat.zero_le _, Nat.zero_le _⟩ dX4_isMove_87 rfl (fun H locs hS => ?_)
                refine lv_iconst (v := (-1)) hx hb dX4_isMove_90 (by decide) ?_
                refine lv_icmp_ne (tgt := 98) hx hb dX4_isMove_91 (by decide) (fun c_39 => ?_) (fun c_39 => ?_)
                · replace hF := ifn hF c_39
                  refine lv_iconst (v := (nI 0)) hx hb dX4_isMove_98 (by decide) ?_
                  replace hF := zb_e hF
                  obtain ⟨h01_40, hF⟩ := hF
                  have e9_0 := Option.some.inj hF
                  subst e9_0
                  exact kret _ _ _ _ h01_40 (hS.sub [1, 2, 3, 4, 0] rfl rfl) dX4_isMove_99
                · replace hF := ifp hF c_39
                  refine lv_iconst (v := (nI 1)) hx hb dX4_isMove_94 (by decide) ?_
                  refine lv_goto (tgt := 99) hx hb dX4_isMove_95 (by decide) ?_
                  replace hF := zb_e hF
                  obtain ⟨h01_41, hF⟩ := hF
                  have e9_0 := Option.some.inj hF
                  subst e9_0
                  exact kret _ _ _ _ h01_41 (hS.sub [1, 2, 3, 4, 0] rfl rfl) dX4_isMove_99
        · replace hF := ifp hF c_12
          refine lv_aload_n hx hb dX4_isMove_51 rfl (lv_at hl 1 rfl) ?_
          refine lv_iload hx hb dX4_isMove_52 (lv_at hl 0 rfl) ?_
          replace hF := cal1_e hF
          obtain ⟨x42, hc43, hF⟩ := hF
          refine kV_i (As := [.int x7]) (rest := []) (wr := []) (w2 := [(h_0, oX4 h_0_rules h_0_lies h_0_tops h_0_list T_0), (h_0_lies, eI cI 16 (T_0 1)), (h_0_tops, eI cI 10 (T_0 2)), (h_0_list, eI cI 160 (T_0 3)), (h_0_rules, oX1 r_0_rules)]) hCF hK (c_X4_isNextUp l D cI cJ h_0 h_0_lies h_0_tops h_0_list h_0_rules T_0 r_0_rules x7 x42 hc43) (cwV 1 hts (TBL_V mw_279 mw_280 mw_281 mw_17 mw_282) rfl rfl rfl pmX4_isNextUp ⟨Nat.le_of_ble_eq_true rfl, Nat.le_of_ble_eq_true rfl⟩) hS hA [1, 2, 3, 4, 0] [] rfl rfl rfl rfl (by decide) rfl rfl rfl hl.1 rfl (Nat.le_of_ble_eq_true rfl) ⟨Nat.zero_le _, Nat.zero_le _⟩ dX4_isMove_54 rfl (fun H locs hS => ?_)
          replace hF := zb_e hF
          obtain ⟨h01_44, hF⟩ := hF
          have e9_0 := Option.some.inj hF
          subst e9_0
          exact kret _ _ _ _ h01_44 hS dX4_isMove_57
      · replace hF := ifp hF c_11
        refine lv_iconst (v := (nI 0)) hx hb dX4_isMove_43 (by decide) ?_
        replace hF := zb_e hF
        obtain ⟨h01_45, hF⟩ := hF
        have e9_0 := Option.some.inj hF
        subst e9_0
        exact kret _ _ _ _ h01_45 (hS.sub [1, 2, 3, 4, 0] rfl rfl) dX4_isMove_44
  · replace hF := ifp hF c_6
    refine lv_iload_n hx hb dX4_isMove_6 rfl (lv_at hl 2 rfl) ?_
    refine lv_bipush (v := (nI 7)) hx hb dX4_isMove_7 (by decide) ?_
    refine lv_icmp_ne (tgt := 23) hx hb dX4_isMove_9 (by decide) (fun c_46 => ?_) (fun c_46 => ?_)
    · replace hF := ifn hF c_46
      refine lv_iconst (v := (nI 0)) hx hb dX4_isMove_23 (by decide) ?_
      replace hF := zb_e hF
      obtain ⟨h01_47, hF⟩ := hF
      have e9_0 := Option.some.inj hF
      subst e9_0
      exact kret _ _ _ _ h01_47 hS dX4_isMove_24
    · replace hF := ifp hF c_46
      refine lv_aload_n hx hb dX4_isMove_12 rfl (lv_at hl 0 rfl) ?_
      replace hF := cal1_e hF
      obtain ⟨x48, hc49, hF⟩ := hF
      refine kV_i (As := []) (rest := []) (wr := []) (w2 := [(h_0, oX4 h_0_rules h_0_lies h_0_tops h_0_list T_0), (h_0_lies, eI cI 16 (T_0 1)), (h_0_tops, eI cI 10 (T_0 2)), (h_0_list, eI cI 160 (T_0 3)), (h_0_rules, oX1 r_0_rules)]) hCF hK (c_X4_isStockMove l D cI cJ h_0 h_0_lies h_0_tops h_0_list h_0_rules T_0 r_0_rules x48 hc49) (cwV 0 hts (TBL_V mw_274 mw_275 mw_276 mw_17 mw_277) rfl rfl rfl pmX4_isStockMove ⟨Nat.le_of_ble_eq_true rfl, Nat.le_of_ble_eq_true rfl⟩) hS hA [0, 1, 2, 3, 4] [] rfl rfl rfl rfl (by decide) rfl rfl rfl hl.1 rfl (Nat.le_of_ble_eq_true rfl) ⟨Nat.zero_le _, Nat.zero_le _⟩ dX4_isMove_13 rfl (fun H locs hS => ?_)
      refine lv_if_eq (tgt := 23) hx hb dX4_isMove_16 (by decide) (fun c_50 => ?_) (fun c_50 => ?_)
      · replace hF := ifp hF c_50
        refine lv_iconst (v := (nI 0)) hx hb dX4_isMove_23 (by decide) ?_
        replace hF := zb_e hF
        obtain ⟨h01_51, hF⟩ := hF
        have e9_0 := Option.some.inj hF
        subst e9_0
        exact kret _ _ _ _ h01_51 hS dX4_isMove_24
      · replace hF := ifn hF c_50
        refine lv_iconst (v := (nI 1)) hx hb dX4_isMove_19 (by decide) ?_
        refine lv_goto (tgt := 24) hx hb dX4_isMove_20 (by decide) ?_
        replace hF := zb_e hF
        obtain ⟨h01_52, hF⟩ := hF
        have e9_0 := Option.some.inj hF
        subst e9_0
        exact kret _ _ _ _ h01_52 hS dX4_isMove_24
set_option maxHeartbeats 4000000 in
set_option maxRecDepth 100000 in
theorem c_X4_isSafeUp (l : Launch) (D : va_G) (cI cJ : ClassId) (h_0 h_0_lies h_0_tops h_0_list h_0_rules : Nat) (T_0 : Nat → Nat → Int32) (r_0_rules : Nat → Int32) (v1 : Int32) (rv : Int32) (hF : F_X4_isSafeUp T_0 r_0_rules v1 = some rv) : CtI l D [(cI, .int), (cJ, .long)] yX4_isSafeUp wtX4_isSafeUp ({ frames := 2, cells := 0, slots := 0, locals := 43 } : Room) [.ref h_0, .int v1] [(h_0, oX4 h_0_rules h_0_lies h_0_tops h_0_list T_0), (h_0_lies, eI cI 16 (T_0 1)), (h_0_tops, eI cI 10 (T_0 2)), (h_0_list, eI cI 160 (T_0 3)), (h_0_rules, oX1 r_0_rules)] [(h_0, oX4 h_0_rules h_0_lies h_0_tops h_0_list T_0), (h_0_lies, eI cI 16 (T_0 1)), (h_0_tops, eI cI 10 (T_0 2)), (h_0_list, eI cI 160 (T_0 3)), (h_0_rules, oX1 r_0_rules)] rv := by
  refine CtZ.of (cc := cX4_isSafeUp) (maxL := 3) (by decide) rfl (Nat.le_of_ble_eq_true rfl) ?_
  intro p e s m args below meth c A H0 Q ls X hS hl kret
  have hCF := X.1
  obtain ⟨⟨hx, hb, hml, hown, hts⟩, hK, hA⟩ := X
  have hl : lv_has ls 3 [(0, .ref h_0), (1, .int v1)] := hl
  have q0 := hts (.fieldLink RX4 12 "Patiencery$Table" "rules" "LPatiencery$Rules;") (List.mem_cons_of_mem _ mw_51)
  have inX4 : ∀ w ∈ u_ws RX4 TX4 7, w ∈ wtX4_isSafeUp := fun w h => List.mem_cons_of_mem _ (inlX4 w h)
  have S2 : ∀ (K2 : Int32 → Int32 → Option (Int32)) (_ : ∀ (v1 : Int32) (v2 : Int32) (H : Heap) (locs : List Loc) (ls : Array Slot), HS D A H0 [(h_0, oX4 h_0_rules h_0_lies h_0_tops h_0_list T_0), (h_0_lies, eI cI 16 (T_0 1)), (h_0_tops, eI cI 10 (T_0 2)), (h_0_list, eI cI 160 (T_0 3)), (h_0_rules, oX1 r_0_rules)] H locs → lv_has ls 3 [(0, .ref h_0), (1, .int v1), (2, .int v2)] → K2 v1 v2 = some rv → W p l e ({ frames := 2, cells := 0, slots := 0, locals := 43 } : Room) s m args below meth c H locs 0 0 Q (F0 m 2 ls [])) (v1 : Int32) (v2 : Int32) (H : Heap) (locs : List Loc) (ls : Array Slot), HS D A H0 [(h_0, oX4 h_0_rules h_0_lies h_0_tops h_0_list T_0), (h_0_lies, eI cI 16 (T_0 1)), (h_0_tops, eI cI 10 (T_0 2)), (h_0_list, eI cI 160 (T_0 3)), (h_0_rules, oX1 r_0_rules)] H locs → lv_has ls 3 [(0, .ref h_0), (1, .int v1), (2, .int v2)] → F_X4_isSafeUp_s2 T_0 r_0_rules K2 v1 v2 = some rv → W p l e ({ frames := 2, cells := 0, slots := 0, locals := 43 } : Room) s m args below meth c H locs 0 0 Q (F0 m 2 ls []) := by
    intro K2 hK2 v1 v2 H locs ls hS hl hF
    unfold F_X4_isSafeUp_s2 at hF
    refine lv_iload_n hx hb dX4_isSafeUp_2 rfl (lv_at hl 2 rfl) ?_
    refine lv_aload_n hx hb dX4_isSafeUp_3 rfl (lv_at hl 0 rfl) ?_
    refine r_get hx hb hts inX4 hown hK hS 0 0 rfl rfl (by decide) q0 rfl dX4_isSafeUp_4 ?_
    replace hF := cal1_e hF
    obtain ⟨x1, hc2, hF⟩ := hF
    refine kV_i (As := []) (rest := [.int v2]) (wr := [(h_0, oX4 h_0_rules h_0_lies h_0_tops h_0_list T_0), (h_0_lies, eI cI 16 (T_0 1)), (h_0_tops, eI cI 10 (T_0 2)), (h_0_list, eI cI 160 (T_0 3))]) (w2 := [(h_0, oX4 h_0_rules h_0_lies h_0_tops h_0_list T_0), (h_0_lies, eI cI 16 (T_0 1)), (h_0_tops, eI cI 10 (T_0 2)), (h_0_list, eI cI 160 (T_0 3)), (h_0_rules, oX1 r_0_rules)]) hCF hK (c_X1_cards l D cI cJ h_0_rules r_0_rules x1 hc2) (cwV 0 hts (TBL_V mw_132 mw_94 mw_95 mw_12 mw_96) rfl rfl rfl pmX1_cards ⟨Nat.le_of_ble_eq_true rfl, Nat.le_of_ble_eq_true rfl⟩) hS hA [4] [0, 1, 2, 3] rfl rfl rfl rfl (by decide) rfl rfl rfl hl.1 rfl (Nat.le_of_ble_eq_true rfl) ⟨Nat.zero_le _, Nat.zero_le _⟩ dX4_isSafeUp_7 rfl (fun H locs hS => ?_)
    refine lv_icmp_ge (tgt := 41) hx hb dX4_isSafeUp_10 (by decide) (fun c_3 => ?_) (fun c_3 => ?_)
    · replace hF := ifp hF c_3
      refine lv_iconst (v := (nI 1)) hx hb dX4_isSafeUp_41 (by decide) ?_
      replace hF := zb_e hF
      obtain ⟨h01_4, hF⟩ := hF
      have e9_0 := Option.some.inj hF
      subst e9_0
      exact kret _ _ _ _ h01_4 hS dX4_isSafeUp_42
    · replace hF := ifn hF c_3
      refine lv_aload_n hx hb dX4_isSafeUp_13 rfl (lv_at hl 0 rfl) ?_
      refine lv_iload_n hx hb dX4_isSafeUp_14 rfl (lv_at hl 2 rfl) ?_
      replace hF := cal1_e hF
      obtain ⟨x5, hc6, hF⟩ := hF
      refine kV_i (As := [.int v2]) (rest := []) (wr := [(h_0_rules, oX1 r_0_rules)]) (w2 := [(h_0_rules, oX1 r_0_rules), (h_0, oX4 h_0_rules h_0_lies h_0_tops h_0_list T_0), (h_0_lies, eI cI 16 (T_0 1)), (h_0_tops, eI cI 10 (T_0 2)), (h_0_list, eI cI 160 (T_0 3))]) hCF hK (c_X4_isUp l D cI cJ h_0 h_0_lies h_0_tops h_0_list h_0_rules T_0 v2 x5 hc6) (cwV 1 hts (TBL_V mw_213 mw_214 mw_215 mw_17 mw_216) rfl rfl rfl pmX4_isUp ⟨Nat.le_of_ble_eq_true rfl, Nat.le_of_ble_eq_true rfl⟩) hS hA [0, 1, 2, 3] [4] rfl rfl rfl rfl (by decide) rfl rfl rfl hl.1 rfl (Nat.le_of_ble_eq_true rfl) ⟨Nat.zero_le _, Nat.zero_le _⟩ dX4_isSafeUp_15 rfl (fun H locs hS => ?_)
      refine lv_if_ne (tgt := 35) hx hb dX4_isSafeUp_18 (by decide) (fun c_7 => ?_) (fun c_7 => ?_)
      · replace hF := ifn hF c_7
        refine lv_iinc (v := v2 + (nI 1)) (lv' := [(2, .int (v2 + (nI 1))), (0, .ref h_0), (1, .int v1)]) hx hb dX4_isSafeUp_35 hl (k := 2) rfl rfl (by decide) rfl (fun ls hl => ?_)
        refine lv_goto (tgt := 2) hx hb dX4_isSafeUp_38 (by decide) ?_
        exact hK2 v1 (v2 + (nI 1)) _ _ _ (hS.sub [1, 2, 3, 4, 0] rfl rfl) (lv_sub hl [1, 2, 0] rfl) hF
      · replace hF := ifp hF c_7
        refine lv_aload_n hx hb dX4_isSafeUp_21 rfl (lv_at hl 0 rfl) ?_
        refine r_get hx hb hts inX4 hown hK hS 1 0 rfl rfl (by decide) q0 rfl dX4_isSafeUp_22 ?_
        refine lv_iload_n hx hb dX4_isSafeUp_25 rfl (lv_at hl 2 rfl) ?_
        refine lv_iload_n hx hb dX4_isSafeUp_26 rfl (lv_at hl 1 rfl) ?_
        replace hF := cal1_e hF
        obtain ⟨x8, hc9, hF⟩ := hF
        refine kV_i (As := [.int v2, .int v1]) (rest := []) (wr := [(h_0, oX4 h_0_rules h_0_lies h_0_tops h_0_list T_0), (h_0_lies, eI cI 16 (T_0 1)), (h_0_tops, eI cI 10 (T_0 2)), (h_0_list, eI cI 160 (T_0 3))]) (w2 := [(h_0, oX4 h_0_rules h_0_lies h_0_tops h_0_list T_0), (h_0_lies, eI cI 16 (T_0 1)), (h_0_tops, eI cI 10 (T_0 2)), (h_0_list, eI cI 160 (T_0 3)), (h_0_rules, oX1 r_0_rules)]) hCF hK (c_X1_isFitting l D cI cJ h_0_rules r_0_rules v2 v1 x8 hc9) (cwV 2 hts (TBL_V mw_257 mw_258 mw_259 mw_12 mw_260) rfl rfl rfl pmX1_isFitting ⟨Nat.le_of_ble_eq_true rfl, Nat.le_of_ble_eq_true rfl⟩) hS hA [0] [1, 2, 3, 4] rfl rfl rfl rfl (by decide) rfl rfl rfl hl.1 rfl (Nat.le_of_ble_eq_true rfl) ⟨Nat.zero_le _, Nat.zero_le _⟩ dX4_isSafeUp_27 rfl (fun H locs hS => ?_)
        refine lv_if_eq (tgt := 35) hx hb dX4_isSafeUp_30 (by decide) (fun c_10 => ?_) (fun c_10 => ?_)
        · replace hF := ifp hF c_10
          refine lv_iinc (v := v2 + (nI 1)) (lv' := [(2, .int (v2 + (nI 1))), (0, .ref h_0), (1, .int v1)]) hx hb dX4_isSafeUp_35 hl (k := 2) rfl rfl (by decide) rfl (fun ls hl => ?_)
          refine lv_goto (tgt := 2) hx hb dX4_isSafeUp_38 (by decide) ?_
          exact hK2 v1 (v2 + (nI 1)) _ _ _ hS (lv_sub hl [1, 2, 0] rfl) hF
        · replace hF := ifn hF c_10
          refine lv_iconst (v := (nI 0)) hx hb dX4_isSafeUp_33 (by decide) ?_
          replace hF := zb_e hF
          obtain ⟨h01_11, hF⟩ := hF
          have e9_0 := Option.some.inj hF
          subst e9_0
          exact kret _ _ _ _ h01_11 hS dX4_isSafeUp_34
  have L2 : ∀  (n : Nat) (v1 : Int32) (v2 : Int32) (H : Heap) (locs : List Loc) (ls : Array Slot), HS D A H0 [(h_0, oX4 h_0_rules h_0_lies h_0_tops h_0_list T_0), (h_0_lies, eI cI 16 (T_0 1)), (h_0_tops, eI cI 10 (T_0 2)), (h_0_list, eI cI 160 (T_0 3)), (h_0_rules, oX1 r_0_rules)] H locs → lv_has ls 3 [(0, .ref h_0), (1, .int v1), (2, .int v2)] → F_X4_isSafeUp_L2 T_0 r_0_rules  n v1 v2 = some rv → W p l e ({ frames := 2, cells := 0, slots := 0, locals := 43 } : Room) s m args below meth c H locs 0 0 Q (F0 m 2 ls []) := by
    intro  n
    induction n with
    | zero => intro v1 v2 H locs ls hS hl hF; exact nomatch (show (none : Option (Int32)) = some _ from hF)
    | succ n ih => intro v1 v2 H locs ls hS hl hF; exact S2  _ ih v1 v2 H locs ls hS hl hF
  unfold F_X4_isSafeUp at hF
  refine lv_iconst (v := (nI 0)) hx hb dX4_isSafeUp_0 (by decide) ?_
  refine lv_istore_n (lv' := [(2, .int (nI 0)), (0, .ref h_0), (1, .int v1)]) hx hb dX4_isSafeUp_1 rfl hl (by decide) rfl (fun ls hl => ?_)
  exact L2 FU v1 (nI 0) _ _ _ hS (lv_sub hl [1, 2, 0] rfl) hF
set_option maxHeartbeats 4000000 in
set_option maxRecDepth 100000 in
theorem c_X4_firstSafePlace (l : Launch) (D : va_G) (cI cJ : ClassId) (h_0 h_0_lies h_0_tops h_0_list h_0_rules : Nat) (T_0 : Nat → Nat → Int32) (r_0_rules : Nat → Int32) (rv : Int32) (hF : F_X4_firstSafePlace T_0 r_0_rules = some rv) : CtI l D [(cI, .int), (cJ, .long)] yX4_firstSafePlace wtX4_firstSafePlace ({ frames := 4, cells := 0, slots := 0, locals := 91 } : Room) [.ref h_0] [(h_0, oX4 h_0_rules h_0_lies h_0_tops h_0_list T_0), (h_0_lies, eI cI 16 (T_0 1)), (h_0_tops, eI cI 10 (T_0 2)), (h_0_list, eI cI 160 (T_0 3)), (h_0_rules, oX1 r_0_rules)] [(h_0, oX4 h_0_rules h_0_lies h_0_tops h_0_list T_0), (h_0_lies, eI cI 16 (T_0 1)), (h_0_tops, eI cI 10 (T_0 2)), (h_0_list, eI cI 160 (T_0 3)), (h_0_rules, oX1 r_0_rules)] rv := by
  refine CtI.of (cc := cX4_firstSafePlace) (maxL := 2) (by decide) rfl (Nat.le_of_ble_eq_true rfl) ?_
  intro p e s m args below meth c A H0 Q ls X hS hl kret
  have hCF := X.1
  obtain ⟨⟨hx, hb, hml, hown, hts⟩, hK, hA⟩ := X
  have hl : lv_has ls 2 [(0, .ref h_0)] := hl
  have S2 : ∀ (K2 : Int32 → Option (Int32)) (_ : ∀ (v1 : Int32) (H : Heap) (locs : List Loc) (ls : Array Slot), HS D A H0 [(h_0, oX4 h_0_rules h_0_lies h_0_tops h_0_list T_0), (h_0_lies, eI cI 16 (T_0 1)), (h_0_tops, eI cI 10 (T_0 2)), (h_0_list, eI cI 160 (T_0 3)), (h_0_rules, oX1 r_0_rules)] H locs → lv_has ls 2 [(0, .ref h_0), (1, .int v1)] → K2 v1 = some rv → W p l e ({ frames := 4, cells := 0, slots := 0, locals := 91 } : Room) s m args below meth c H locs 0 0 Q (F0 m 2 ls [])) (v1 : Int32) (H : Heap) (locs : List Loc) (ls : Array Slot), HS D A H0 [(h_0, oX4 h_0_rules h_0_lies h_0_tops h_0_list T_0), (h_0_lies, eI cI 16 (T_0 1)), (h_0_tops, eI cI 10 (T_0 2)), (h_0_list, eI cI 160 (T_0 3)), (h_0_rules, oX1 r_0_rules)] H locs → lv_has ls 2 [(0, .ref h_0), (1, .int v1)] → F_X4_firstSafePlace_s2 T_0 r_0_rules K2 v1 = some rv → W p l e ({ frames := 4, cells := 0, slots := 0, locals := 91 } : Room) s m args below meth c H locs 0 0 Q (F0 m 2 ls []) := by
    intro K2 hK2 v1 H locs ls hS hl hF
    unfold F_X4_firstSafePlace_s2 at hF
    refine lv_iload_n hx hb dX4_firstSafePlace_2 rfl (lv_at hl 1 rfl) ?_
    refine lv_bipush (v := (nI 7)) hx hb dX4_firstSafePlace_3 (by decide) ?_
    refine lv_icmp_gt (tgt := 39) hx hb dX4_firstSafePlace_5 (by decide) (fun c_1 => ?_) (fun c_1 => ?_)
    · replace hF := ifp hF c_1
      refine lv_iconst (v := (-1)) hx hb dX4_firstSafePlace_39 (by decide) ?_
      have e9_0 := Option.some.inj hF
      subst e9_0
      exact kret _ _ _ _ hS dX4_firstSafePlace_40
    · replace hF := ifn hF c_1
      refine lv_aload_n hx hb dX4_firstSafePlace_8 rfl (lv_at hl 0 rfl) ?_
      refine lv_iload_n hx hb dX4_firstSafePlace_9 rfl (lv_at hl 1 rfl) ?_
      refine lv_bipush (v := (nI 8)) hx hb dX4_firstSafePlace_10 (by decide) ?_
      refine lv_iconst (v := (nI 1)) hx hb dX4_firstSafePlace_12 (by decide) ?_
      replace hF := cal1_e hF
      obtain ⟨x2, hc3, hF⟩ := hF
      refine kV_i (As := [.int v1, .int (nI 8), .int (nI 1)]) (rest := []) (wr := []) (w2 := [(h_0, oX4 h_0_rules h_0_lies h_0_tops h_0_list T_0), (h_0_lies, eI cI 16 (T_0 1)), (h_0_tops, eI cI 10 (T_0 2)), (h_0_list, eI cI 160 (T_0 3)), (h_0_rules, oX1 r_0_rules)]) hCF hK (c_X4_isMove l D cI cJ h_0 h_0_lies h_0_tops h_0_list h_0_rules T_0 r_0_rules v1 (nI 8) (nI 1) x2 hc3) (cwV 3 hts (TBL_V mw_269 mw_270 mw_271 mw_17 mw_272) rfl rfl rfl pmX4_isMove ⟨Nat.le_of_ble_eq_true rfl, Nat.le_of_ble_eq_true rfl⟩) hS hA [0, 1, 2, 3, 4] [] rfl rfl rfl rfl (by decide) rfl rfl rfl hl.1 rfl (Nat.le_of_ble_eq_true rfl) ⟨Nat.zero_le _, Nat.zero_le _⟩ dX4_firstSafePlace_13 rfl (fun H locs hS => ?_)
      refine lv_if_eq (tgt := 33) hx hb dX4_firstSafePlace_16 (by decide) (fun c_4 => ?_) (fun c_4 => ?_)
      · replace hF := ifp hF c_4
        refine lv_iinc (v := v1 + (nI 1)) (lv' := [(1, .int (v1 + (nI 1))), (0, .ref h_0)]) hx hb dX4_firstSafePlace_33 hl (k := 1) rfl rfl (by decide) rfl (fun ls hl => ?_)
        refine lv_goto (tgt := 2) hx hb dX4_firstSafePlace_36 (by decide) ?_
        exact hK2 (v1 + (nI 1)) _ _ _ hS (lv_sub hl [1, 0] rfl) hF
      · replace hF := ifn hF c_4
        refine lv_aload_n hx hb dX4_firstSafePlace_19 rfl (lv_at hl 0 rfl) ?_
        refine lv_aload_n hx hb dX4_firstSafePlace_20 rfl (lv_at hl 0 rfl) ?_
        refine lv_iload_n hx hb dX4_firstSafePlace_21 rfl (lv_at hl 1 rfl) ?_
        replace hF := cal1_e hF
        obtain ⟨x5, hc6, hF⟩ := hF
        refine kV_i (As := [.int v1]) (rest := [.ref h_0]) (wr := [(h_0_rules, oX1 r_0_rules)]) (w2 := [(h_0_rules, oX1 r_0_rules), (h_0, oX4 h_0_rules h_0_lies h_0_tops h_0_list T_0), (h_0_lies, eI cI 16 (T_0 1)), (h_0_tops, eI cI 10 (T_0 2)), (h_0_list, eI cI 160 (T_0 3))]) hCF hK (c_X4_topOf l D cI cJ h_0 h_0_lies h_0_tops h_0_list h_0_rules T_0 v1 x5 hc6) (cwV 1 hts (TBL_V mw_133 mw_134 mw_135 mw_17 mw_136) rfl rfl rfl pmX4_topOf ⟨Nat.le_of_ble_eq_true rfl, Nat.le_of_ble_eq_true rfl⟩) hS hA [0, 1, 2, 3] [4] rfl rfl rfl rfl (by decide) rfl rfl rfl hl.1 rfl (Nat.le_of_ble_eq_true rfl) ⟨Nat.zero_le _, Nat.zero_le _⟩ dX4_firstSafePlace_22 rfl (fun H locs hS => ?_)
        replace hF := cal1_e hF
        obtain ⟨x7, hc8, hF⟩ := hF
        refine kV_i (As := [.int x5]) (rest := []) (wr := []) (w2 := [(h_0, oX4 h_0_rules h_0_lies h_0_tops h_0_list T_0), (h_0_lies, eI cI 16 (T_0 1)), (h_0_tops, eI cI 10 (T_0 2)), (h_0_list, eI cI 160 (T_0 3)), (h_0_rules, oX1 r_0_rules)]) hCF hK (c_X4_isSafeUp l D cI cJ h_0 h_0_lies h_0_tops h_0_list h_0_rules T_0 r_0_rules x5 x7 hc8) (cwV 1 hts (TBL_V mw_392 mw_393 mw_394 mw_17 mw_395) rfl rfl rfl pmX4_isSafeUp ⟨Nat.le_of_ble_eq_true rfl, Nat.le_of_ble_eq_true rfl⟩) hS hA [1, 2, 3, 4, 0] [] rfl rfl rfl rfl (by decide) rfl rfl rfl hl.1 rfl (Nat.le_of_ble_eq_true rfl) ⟨Nat.zero_le _, Nat.zero_le _⟩ dX4_firstSafePlace_25 rfl (fun H locs hS => ?_)
        refine lv_if_eq (tgt := 33) hx hb dX4_firstSafePlace_28 (by decide) (fun c_9 => ?_) (fun c_9 => ?_)
        · replace hF := ifp hF c_9
          refine lv_iinc (v := v1 + (nI 1)) (lv' := [(1, .int (v1 + (nI 1))), (0, .ref h_0)]) hx hb dX4_firstSafePlace_33 hl (k := 1) rfl rfl (by decide) rfl (fun ls hl => ?_)
          refine lv_goto (tgt := 2) hx hb dX4_firstSafePlace_36 (by decide) ?_
          exact hK2 (v1 + (nI 1)) _ _ _ hS (lv_sub hl [1, 0] rfl) hF
        · replace hF := ifn hF c_9
          refine lv_iload_n hx hb dX4_firstSafePlace_31 rfl (lv_at hl 1 rfl) ?_
          have e9_0 := Option.some.inj hF
          subst e9_0
          exact kret _ _ _ _ hS dX4_firstSafePlace_32
  have L2 : ∀  (n : Nat) (v1 : Int32) (H : Heap) (locs : List Loc) (ls : Array Slot), HS D A H0 [(h_0, oX4 h_0_rules h_0_lies h_0_tops h_0_list T_0), (h_0_lies, eI cI 16 (T_0 1)), (h_0_tops, eI cI 10 (T_0 2)), (h_0_list, eI cI 160 (T_0 3)), (h_0_rules, oX1 r_0_rules)] H locs → lv_has ls 2 [(0, .ref h_0), (1, .int v1)] → F_X4_firstSafePlace_L2 T_0 r_0_rules  n v1 = some rv → W p l e ({ frames := 4, cells := 0, slots := 0, locals := 91 } : Room) s m args below meth c H locs 0 0 Q (F0 m 2 ls []) := by
    intro  n
    induction n with
    | zero => intro v1 H locs ls hS hl hF; exact nomatch (show (none : Option (Int32)) = some _ from hF)
    | succ n ih => intro v1 H locs ls hS hl hF; exact S2  _ ih v1 H locs ls hS hl hF
  unfold F_X4_firstSafePlace at hF
  refine lv_iconst (v := (nI 0)) hx hb dX4_firstSafePlace_0 (by decide) ?_
  refine lv_istore_n (lv' := [(1, .int (nI 0)), (0, .ref h_0)]) hx hb dX4_firstSafePlace_1 rfl hl (by decide) rfl (fun ls hl => ?_)
  exact L2 FU (nI 0) _ _ _ hS (lv_sub hl [1, 0] rfl) hF
set_option maxHeartbeats 4000000 in
set_option maxRecDepth 100000 in
theorem c_X4_packed (l : Launch) (D : va_G) (cI cJ : ClassId) (h_0 h_0_lies h_0_tops h_0_list g_0_rules : Nat) (T_0 : Nat → Nat → Int32) (v1 : Int32) (v2 : Int32) (v3 : Int32) (rv : Int64) (hF : F_X4_packed T_0 v1 v2 v3 = some rv) : CtL l D [(cI, .int), (cJ, .long)] yX4_packed wtX4_packed ({ frames := 1, cells := 0, slots := 0, locals := 21 } : Room) [.ref h_0, .int v1, .int v2, .int v3] [(h_0, oX4 g_0_rules h_0_lies h_0_tops h_0_list T_0), (h_0_lies, eI cI 16 (T_0 1)), (h_0_tops, eI cI 10 (T_0 2)), (h_0_list, eI cI 160 (T_0 3))] [(h_0, oX4 g_0_rules h_0_lies h_0_tops h_0_list T_0), (h_0_lies, eI cI 16 (T_0 1)), (h_0_tops, eI cI 10 (T_0 2)), (h_0_list, eI cI 160 (T_0 3))] rv := by
  refine CtL.of (cc := cX4_packed) (maxL := 7) (by decide) rfl (Nat.le_of_ble_eq_true rfl) ?_
  intro p e s m args below meth c A H0 Q ls X hS hl kret
  have hCF := X.1
  obtain ⟨⟨hx, hb, hml, hown, hts⟩, hK, hA⟩ := X
  have hl : lv_has ls 7 [(0, .ref h_0), (1, .int v1), (2, .int v2), (3, .int v3)] := hl
  have q0 := hts (.fieldLink RX4 18 "Patiencery$Table" "lies" "[I") (List.mem_cons_of_mem _ mw_53)
  have inX4 : ∀ w ∈ u_ws RX4 TX4 7, w ∈ wtX4_packed := fun w h => List.mem_cons_of_mem _ (inlX4 w h)
  have q2 := hts (.methodLink RX4 81 Lib.Math.max.name) (List.mem_cons_of_mem _ mw_345)
  have q3 := hts (.static Lib.Math.max.name) (List.mem_cons_of_mem _ mw_64)
  have q4 := hts (.initialized "java/lang/Math") (List.mem_cons_of_mem _ mw_65)
  have q5 := hts (.code Lib.Math.max.name Lib.Math.max.code 2 (some .int)) (List.mem_cons_of_mem _ mw_66)
  have S11 : ∀ (K11 : Int32 → Int64 → Int32 → Option (Int64)) (_ : ∀ (v3 : Int32) (v4 : Int64) (v6 : Int32) (H : Heap) (locs : List Loc) (ls : Array Slot), HS D A H0 [(h_0, oX4 g_0_rules h_0_lies h_0_tops h_0_list T_0), (h_0_lies, eI cI 16 (T_0 1)), (h_0_tops, eI cI 10 (T_0 2)), (h_0_list, eI cI 160 (T_0 3))] H locs → lv_has ls 7 [(0, .ref h_0), (3, .int v3), (4, .long v4), (6, .int v6)] → K11 v3 v4 v6 = some rv → W p l e ({ frames := 1, cells := 0, slots := 0, locals := 21 } : Room) s m args below meth c H locs 0 0 Q (F0 m 11 ls [])) (v3 : Int32) (v4 : Int64) (v6 : Int32) (H : Heap) (locs : List Loc) (ls : Array Slot), HS D A H0 [(h_0, oX4 g_0_rules h_0_lies h_0_tops h_0_list T_0), (h_0_lies, eI cI 16 (T_0 1)), (h_0_tops, eI cI 10 (T_0 2)), (h_0_list, eI cI 160 (T_0 3))] H locs → lv_has ls 7 [(0, .ref h_0), (3, .int v3), (4, .long v4), (6, .int v6)] → F_X4_packed_s11 T_0 K11 v3 v4 v6 = some rv → W p l e ({ frames := 1, cells := 0, slots := 0, locals := 21 } : Room) s m args below meth c H locs 0 0 Q (F0 m 11 ls []) := by
    intro K11 hK11 v3 v4 v6 H locs ls hS hl hF
    unfold F_X4_packed_s11 at hF
    refine lv_iload hx hb dX4_packed_11 (lv_at hl 3 rfl) ?_
    refine lv_iload_n hx hb dX4_packed_13 rfl (lv_at hl 1 rfl) ?_
    refine lv_icmp_ge (tgt := 48) hx hb dX4_packed_14 (by decide) (fun c_1 => ?_) (fun c_1 => ?_)
    · replace hF := ifp hF c_1
      refine lv_lload hx hb dX4_packed_48 (lv_at hl 2 rfl) ?_
      have e9_0 := Option.some.inj hF
      subst e9_0
      exact kret _ _ _ _ hS dX4_packed_50
    · replace hF := ifn hF c_1
      refine lv_iload hx hb dX4_packed_17 (lv_at hl 3 rfl) ?_
      refine lv_aload_n hx hb dX4_packed_19 rfl (lv_at hl 0 rfl) ?_
      refine r_get hx hb hts inX4 hown hK hS 0 1 rfl rfl (by decide) q0 rfl dX4_packed_20 ?_
      refine r_alenI hx hb hK hS 1 rfl rfl dX4_packed_23 ?_
      refine lv_icmp_ge (tgt := 48) hx hb dX4_packed_24 (by decide) (fun c_2 => ?_) (fun c_2 => ?_)
      · replace hF := ifp hF c_2
        refine lv_lload hx hb dX4_packed_48 (lv_at hl 2 rfl) ?_
        have e9_0 := Option.some.inj hF
        subst e9_0
        exact kret _ _ _ _ hS dX4_packed_50
      · replace hF := ifn hF c_2
        refine lv_lload hx hb dX4_packed_27 (lv_at hl 2 rfl) ?_
        refine lv_iconst (v := (nI 5)) hx hb dX4_packed_29 (by decide) ?_
        refine lv_lshl hx hb dX4_packed_30 rfl ?_
        refine lv_aload_n hx hb dX4_packed_31 rfl (lv_at hl 0 rfl) ?_
        refine r_get hx hb hts inX4 hown hK hS 0 1 rfl rfl (by decide) q0 rfl dX4_packed_32 ?_
        refine lv_iload hx hb dX4_packed_35 (lv_at hl 3 rfl) ?_
        replace hF := rdA_e hF
        obtain ⟨hi4, x3, ex3, hF⟩ := hF
        refine r_iald hx hb hK hS 1 rfl rfl hi4 dX4_packed_37 ex3 ?_
        refine lv_i2l hx hb dX4_packed_38 rfl ?_
        refine lv_lor hx hb dX4_packed_39 ?_
        refine lv_lstore (lv' := [(4, .long ((v4 <<< (((nI 5) : Int32).toInt64 &&& 63)) ||| (x3.toInt64))), (0, .ref h_0), (3, .int v3), (6, .int v6)]) hx hb dX4_packed_40 hl (by decide) rfl (fun ls hl => ?_)
        refine lv_iinc (v := v6 + (nI 1)) (lv' := [(6, .int (v6 + (nI 1))), (4, .long ((v4 <<< (((nI 5) : Int32).toInt64 &&& 63)) ||| (x3.toInt64))), (0, .ref h_0), (3, .int v3)]) hx hb dX4_packed_42 hl (k := 3) rfl rfl (by decide) rfl (fun ls hl => ?_)
        refine lv_goto (tgt := 11) hx hb dX4_packed_45 (by decide) ?_
        exact hK11 v3 ((v4 <<< (((nI 5) : Int32).toInt64 &&& 63)) ||| (x3.toInt64)) (v6 + (nI 1)) _ _ _ hS (lv_sub hl [2, 3, 1, 0] rfl) hF
  have L11 : ∀  (n : Nat) (v3 : Int32) (v4 : Int64) (v6 : Int32) (H : Heap) (locs : List Loc) (ls : Array Slot), HS D A H0 [(h_0, oX4 g_0_rules h_0_lies h_0_tops h_0_list T_0), (h_0_lies, eI cI 16 (T_0 1)), (h_0_tops, eI cI 10 (T_0 2)), (h_0_list, eI cI 160 (T_0 3))] H locs → lv_has ls 7 [(0, .ref h_0), (3, .int v3), (4, .long v4), (6, .int v6)] → F_X4_packed_L11 T_0  n v3 v4 v6 = some rv → W p l e ({ frames := 1, cells := 0, slots := 0, locals := 21 } : Room) s m args below meth c H locs 0 0 Q (F0 m 11 ls []) := by
    intro  n
    induction n with
    | zero => intro v3 v4 v6 H locs ls hS hl hF; exact nomatch (show (none : Option (Int64)) = some _ from hF)
    | succ n ih => intro v3 v4 v6 H locs ls hS hl hF; exact S11  _ ih v3 v4 v6 H locs ls hS hl hF
  unfold F_X4_packed at hF
  refine lv_iload_n hx hb dX4_packed_0 rfl (lv_at hl 1 rfl) ?_
  refine lv_i2l hx hb dX4_packed_1 rfl ?_
  refine lv_lstore (lv' := [(4, .long (v1.toInt64)), (0, .ref h_0), (1, .int v1), (2, .int v2), (3, .int v3)]) hx hb dX4_packed_2 hl (by decide) rfl (fun ls hl => ?_)
  refine lv_iload_n hx hb dX4_packed_4 rfl (lv_at hl 3 rfl) ?_
  refine lv_iconst (v := (nI 0)) hx hb dX4_packed_5 (by decide) ?_
  refine va_mmax hx hb (hml.trans hl.1.symm) hown q2 q3 q4 q5 (by decide) (by decide) (Nat.zero_le _) (Nat.zero_le _) dX4_packed_6 ?_
  refine lv_istore (lv' := [(6, .int (if v2 < (nI 0) then (nI 0) else v2)), (4, .long (v1.toInt64)), (0, .ref h_0), (1, .int v1), (2, .int v2), (3, .int v3)]) hx hb dX4_packed_9 hl (by decide) rfl (fun ls hl => ?_)
  exact L11 FU v3 (v1.toInt64) (if v2 < (nI 0) then (nI 0) else v2) _ _ _ hS (lv_sub hl [2, 5, 1, 0] rfl) hF
set_option maxHeartbeats 4000000 in
set_option maxRecDepth 100000 in
theorem c_X4_packedTops (l : Launch) (D : va_G) (cI cJ : ClassId) (h_0 h_0_lies h_0_tops h_0_list g_0_rules : Nat) (T_0 : Nat → Nat → Int32) (rv : Int64) (hF : F_X4_packedTops T_0 = some rv) : CtL l D [(cI, .int), (cJ, .long)] yX4_packedTops wtX4_packedTops ({ frames := 0, cells := 0, slots := 0, locals := 0 } : Room) [.ref h_0] [(h_0, oX4 g_0_rules h_0_lies h_0_tops h_0_list T_0), (h_0_lies, eI cI 16 (T_0 1)), (h_0_tops, eI cI 10 (T_0 2)), (h_0_list, eI cI 160 (T_0 3))] [(h_0, oX4 g_0_rules h_0_lies h_0_tops h_0_list T_0), (h_0_lies, eI cI 16 (T_0 1)), (h_0_tops, eI cI 10 (T_0 2)), (h_0_list, eI cI 160 (T_0 3))] rv := by
  refine CtL.of (cc := cX4_packedTops) (maxL := 4) (by decide) rfl (Nat.le_of_ble_eq_true rfl) ?_
  intro p e s m args below meth c A H0 Q ls X hS hl kret
  have hCF := X.1
  obtain ⟨⟨hx, hb, hml, hown, hts⟩, hK, hA⟩ := X
  have hl : lv_has ls 4 [(0, .ref h_0)] := hl
  have q0 := hts (.fieldLink RX4 22 "Patiencery$Table" "tops" "[I") (List.mem_cons_of_mem _ mw_54)
  have inX4 : ∀ w ∈ u_ws RX4 TX4 7, w ∈ wtX4_packedTops := fun w h => List.mem_cons_of_mem _ (inlX4 w h)
  have S4 : ∀ (K4 : Int64 → Int32 → Option (Int64)) (_ : ∀ (v1 : Int64) (v3 : Int32) (H : Heap) (locs : List Loc) (ls : Array Slot), HS D A H0 [(h_0, oX4 g_0_rules h_0_lies h_0_tops h_0_list T_0), (h_0_lies, eI cI 16 (T_0 1)), (h_0_tops, eI cI 10 (T_0 2)), (h_0_list, eI cI 160 (T_0 3))] H locs → lv_has ls 4 [(0, .ref h_0), (1, .long v1), (3, .int v3)] → K4 v1 v3 = some rv → W p l e ({ frames := 0, cells := 0, slots := 0, locals := 0 } : Room) s m args below meth c H locs 0 0 Q (F0 m 4 ls [])) (v1 : Int64) (v3 : Int32) (H : Heap) (locs : List Loc) (ls : Array Slot), HS D A H0 [(h_0, oX4 g_0_rules h_0_lies h_0_tops h_0_list T_0), (h_0_lies, eI cI 16 (T_0 1)), (h_0_tops, eI cI 10 (T_0 2)), (h_0_list, eI cI 160 (T_0 3))] H locs → lv_has ls 4 [(0, .ref h_0), (1, .long v1), (3, .int v3)] → F_X4_packedTops_s4 T_0 K4 v1 v3 = some rv → W p l e ({ frames := 0, cells := 0, slots := 0, locals := 0 } : Room) s m args below meth c H locs 0 0 Q (F0 m 4 ls []) := by
    intro K4 hK4 v1 v3 H locs ls hS hl hF
    unfold F_X4_packedTops_s4 at hF
    refine lv_iload_n hx hb dX4_packedTops_4 rfl (lv_at hl 2 rfl) ?_
    refine lv_aload_n hx hb dX4_packedTops_5 rfl (lv_at hl 0 rfl) ?_
    refine r_get hx hb hts inX4 hown hK hS 0 2 rfl rfl (by decide) q0 rfl dX4_packedTops_6 ?_
    refine r_alenI hx hb hK hS 2 rfl rfl dX4_packedTops_9 ?_
    refine lv_icmp_ge (tgt := 33) hx hb dX4_packedTops_10 (by decide) (fun c_1 => ?_) (fun c_1 => ?_)
    · replace hF := ifp hF c_1
      refine lv_lload_n hx hb dX4_packedTops_33 rfl (lv_at hl 1 rfl) ?_
      have e9_0 := Option.some.inj hF
      subst e9_0
      exact kret _ _ _ _ hS dX4_packedTops_34
    · replace hF := ifn hF c_1
      refine lv_lload_n hx hb dX4_packedTops_13 rfl (lv_at hl 1 rfl) ?_
      refine lv_iconst (v := (nI 5)) hx hb dX4_packedTops_14 (by decide) ?_
      refine lv_lshl hx hb dX4_packedTops_15 rfl ?_
      refine lv_aload_n hx hb dX4_packedTops_16 rfl (lv_at hl 0 rfl) ?_
      refine r_get hx hb hts inX4 hown hK hS 0 2 rfl rfl (by decide) q0 rfl dX4_packedTops_17 ?_
      refine lv_iload_n hx hb dX4_packedTops_20 rfl (lv_at hl 2 rfl) ?_
      replace hF := rdA_e hF
      obtain ⟨hi3, x2, ex2, hF⟩ := hF
      refine r_iald hx hb hK hS 2 rfl rfl hi3 dX4_packedTops_21 ex2 ?_
      refine lv_iconst (v := (nI 1)) hx hb dX4_packedTops_22 (by decide) ?_
      refine lv_iadd hx hb dX4_packedTops_23 ?_
      refine lv_i2l hx hb dX4_packedTops_24 rfl ?_
      refine lv_lor hx hb dX4_packedTops_25 ?_
      refine lv_lstore_n (lv' := [(1, .long ((v1 <<< (((nI 5) : Int32).toInt64 &&& 63)) ||| (((x2 + (nI 1)) : Int32).toInt64))), (0, .ref h_0), (3, .int v3)]) hx hb dX4_packedTops_26 rfl hl (by decide) rfl (fun ls hl => ?_)
      refine lv_iinc (v := v3 + (nI 1)) (lv' := [(3, .int (v3 + (nI 1))), (1, .long ((v1 <<< (((nI 5) : Int32).toInt64 &&& 63)) ||| (((x2 + (nI 1)) : Int32).toInt64))), (0, .ref h_0)]) hx hb dX4_packedTops_27 hl (k := 2) rfl rfl (by decide) rfl (fun ls hl => ?_)
      refine lv_goto (tgt := 4) hx hb dX4_packedTops_30 (by decide) ?_
      exact hK4 ((v1 <<< (((nI 5) : Int32).toInt64 &&& 63)) ||| (((x2 + (nI 1)) : Int32).toInt64)) (v3 + (nI 1)) _ _ _ hS (lv_sub hl [2, 1, 0] rfl) hF
  have L4 : ∀  (n : Nat) (v1 : Int64) (v3 : Int32) (H : Heap) (locs : List Loc) (ls : Array Slot), HS D A H0 [(h_0, oX4 g_0_rules h_0_lies h_0_tops h_0_list T_0), (h_0_lies, eI cI 16 (T_0 1)), (h_0_tops, eI cI 10 (T_0 2)), (h_0_list, eI cI 160 (T_0 3))] H locs → lv_has ls 4 [(0, .ref h_0), (1, .long v1), (3, .int v3)] → F_X4_packedTops_L4 T_0  n v1 v3 = some rv → W p l e ({ frames := 0, cells := 0, slots := 0, locals := 0 } : Room) s m args below meth c H locs 0 0 Q (F0 m 4 ls []) := by
    intro  n
    induction n with
    | zero => intro v1 v3 H locs ls hS hl hF; exact nomatch (show (none : Option (Int64)) = some _ from hF)
    | succ n ih => intro v1 v3 H locs ls hS hl hF; exact S4  _ ih v1 v3 H locs ls hS hl hF
  unfold F_X4_packedTops at hF
  refine lv_lconst (v := (lN 0)) hx hb dX4_packedTops_0 (by decide) ?_
  refine lv_lstore_n (lv' := [(1, .long (lN 0)), (0, .ref h_0)]) hx hb dX4_packedTops_1 rfl hl (by decide) rfl (fun ls hl => ?_)
  refine lv_iconst (v := (nI 0)) hx hb dX4_packedTops_2 (by decide) ?_
  refine lv_istore_n (lv' := [(3, .int (nI 0)), (1, .long (lN 0)), (0, .ref h_0)]) hx hb dX4_packedTops_3 rfl hl (by decide) rfl (fun ls hl => ?_)
  exact L4 FU (lN 0) (nI 0) _ _ _ hS (lv_sub hl [2, 1, 0] rfl) hF
set_option maxHeartbeats 4000000 in
set_option maxRecDepth 100000 in
theorem c_X4_floorOf (l : Launch) (D : va_G) (cI cJ : ClassId) (v0 : Int32) (rv : Int32) (hF : F_X4_floorOf v0 = some rv) : CtI l D [(cI, .int), (cJ, .long)] yX4_floorOf wtX4_floorOf ({ frames := 0, cells := 0, slots := 0, locals := 0 } : Room) [.int v0] [] [] rv := by
  refine CtI.of (cc := cX4_floorOf) (maxL := 1) (by decide) rfl (Nat.le_of_ble_eq_true rfl) ?_
  intro p e s m args below meth c A H0 Q ls X hS hl kret
  have hCF := X.1
  obtain ⟨⟨hx, hb, hml, hown, hts⟩, hK, hA⟩ := X
  have hl : lv_has ls 1 [(0, .int v0)] := hl
  unfold F_X4_floorOf at hF
  refine lv_iload_n hx hb dX4_floorOf_0 rfl (lv_at hl 0 rfl) ?_
  by_cases c_1 : v0 = (nI 7)
  · replace hF := ifp hF c_1
    refine lv_tableIn (tgt := 28) hx hb dX4_floorOf_1 (by rw [c_1]; decide) (by rw [c_1]; decide) (by rw [c_1]; rfl) (by decide) ?_
    refine lv_bipush (v := (nI 18)) hx hb dX4_floorOf_28 (by decide) ?_
    have e9_0 := Option.some.inj hF
    subst e9_0
    exact kret _ _ _ _ hS dX4_floorOf_30
  replace hF := ifn hF c_1
  by_cases c_2 : v0 = (nI 8)
  · replace hF := ifp hF c_2
    refine lv_tableIn (tgt := 31) hx hb dX4_floorOf_1 (by rw [c_2]; decide) (by rw [c_2]; decide) (by rw [c_2]; rfl) (by decide) ?_
    refine lv_bipush (v := (nI 20)) hx hb dX4_floorOf_31 (by decide) ?_
    have e9_0 := Option.some.inj hF
    subst e9_0
    exact kret _ _ _ _ hS dX4_floorOf_33
  replace hF := ifn hF c_2
  by_cases c_3 : v0 = (nI 9)
  · replace hF := ifp hF c_3
    refine lv_tableIn (tgt := 34) hx hb dX4_floorOf_1 (by rw [c_3]; decide) (by rw [c_3]; decide) (by rw [c_3]; rfl) (by decide) ?_
    refine lv_bipush (v := (nI 19)) hx hb dX4_floorOf_34 (by decide) ?_
    have e9_0 := Option.some.inj hF
    subst e9_0
    exact kret _ _ _ _ hS dX4_floorOf_36
  replace hF := ifn hF c_3
  refine lv_tableOut (tgt := 37) hx hb dX4_floorOf_1 (by have nc_1 := toInt_ne c_1 (k := 7) rfl; have nc_2 := toInt_ne c_2 (k := 8) rfl; have nc_3 := toInt_ne c_3 (k := 9) rfl; omega) (by decide) ?_
  refine lv_iload_n hx hb dX4_floorOf_37 rfl (lv_at hl 0 rfl) ?_
  refine lv_iconst (v := (nI 5)) hx hb dX4_floorOf_38 (by decide) ?_
  refine lv_icmp_ge (tgt := 47) hx hb dX4_floorOf_39 (by decide) (fun c_4 => ?_) (fun c_4 => ?_)
  · replace hF := ifp hF c_4
    refine lv_bipush (v := (nI 17)) hx hb dX4_floorOf_47 (by decide) ?_
    have e9_0 := Option.some.inj hF
    subst e9_0
    exact kret _ _ _ _ hS dX4_floorOf_49
  · replace hF := ifn hF c_4
    refine lv_bipush (v := (nI 16)) hx hb dX4_floorOf_42 (by decide) ?_
    refine lv_goto (tgt := 49) hx hb dX4_floorOf_44 (by decide) ?_
    have e9_0 := Option.some.inj hF
    subst e9_0
    exact kret _ _ _ _ hS dX4_floorOf_49
set_option maxHeartbeats 4000000 in
set_option maxRecDepth 100000 in
theorem c_X4_layOn (l : Launch) (D : va_G) (cI cJ : ClassId) (h_0 h_0_lies h_0_tops h_0_list g_0_rules : Nat) (T_0 : Nat → Nat → Int32) (v1 : Int32) (v2 : Int32) (v3 : Int32) (r_T_0 : Nat → Nat → Int32) (hF : F_X4_layOn T_0 v1 v2 v3 = some r_T_0) : CtV l D [(cI, .int), (cJ, .long)] yX4_layOn wtX4_layOn ({ frames := 1, cells := 0, slots := 0, locals := 22 } : Room) [.ref h_0, .int v1, .int v2, .int v3] [(h_0, oX4 g_0_rules h_0_lies h_0_tops h_0_list T_0), (h_0_lies, eI cI 16 (T_0 1)), (h_0_tops, eI cI 10 (T_0 2)), (h_0_list, eI cI 160 (T_0 3))] [(h_0, oX4 g_0_rules h_0_lies h_0_tops h_0_list r_T_0), (h_0_lies, eI cI 16 (r_T_0 1)), (h_0_tops, eI cI 10 (r_T_0 2)), (h_0_list, eI cI 160 (r_T_0 3))] := by
  refine CtV.of (cc := cX4_layOn) (maxL := 5) (by decide) rfl (Nat.le_of_ble_eq_true rfl) ?_
  intro p e s m args below meth c A H0 Q ls X hS hl kret
  have hCF := X.1
  obtain ⟨⟨hx, hb, hml, hown, hts⟩, hK, hA⟩ := X
  have hl : lv_has ls 5 [(0, .ref h_0), (1, .int v1), (2, .int v2), (3, .int v3)] := hl
  have q0 := hts (.fieldLink RX4 22 "Patiencery$Table" "tops" "[I") (List.mem_cons_of_mem _ mw_54)
  have inX4 : ∀ w ∈ u_ws RX4 TX4 7, w ∈ wtX4_layOn := fun w h => List.mem_cons_of_mem _ (inlX4 w h)
  have q2 := hts (.fieldLink RX4 18 "Patiencery$Table" "lies" "[I") (List.mem_cons_of_mem _ mw_53)
  have B27 : ∀ (T_0 : Nat → Nat → Int32) (v2 : Int32) (v3 : Int32) (s1 : Int32) (s2 : Int32) (H : Heap) (locs : List Loc) (ls : Array Slot), HS D A H0 [(h_0, oX4 g_0_rules h_0_lies h_0_tops h_0_list T_0), (h_0_lies, eI cI 16 (T_0 1)), (h_0_tops, eI cI 10 (T_0 2)), (h_0_list, eI cI 160 (T_0 3))] H locs → lv_has ls 5 [(0, .ref h_0), (2, .int v2), (3, .int v3)] → F_X4_layOn_b27   T_0 v2 v3 s1 s2 = some r_T_0 → W p l e ({ frames := 1, cells := 0, slots := 0, locals := 22 } : Room) s m args below meth c H locs 0 0 Q (F0 m 27 ls [.int s2, .int s1, .ref h_0_lies]) := by
    intro T_0 v2 v3 s1 s2 H locs ls hS hl hF
    unfold F_X4_layOn_b27 at hF
    replace hF := cal1_e hF
    obtain ⟨f1, hc2, hF⟩ := hF
    replace hF := bnd_e hF
    obtain ⟨T_0u3, eT_0u3, hF⟩ := hF
    refine kN_v (As := [.ref h_0_lies, .int s1, .int s2]) (rest := []) (wr := [(h_0, oX4 g_0_rules h_0_lies h_0_tops h_0_list T_0), (h_0_tops, eI cI 10 (T_0 2)), (h_0_list, eI cI 160 (T_0 3))]) (w2 := [(h_0, oX4 g_0_rules h_0_lies h_0_tops h_0_list T_0u3), (h_0_tops, eI cI 10 (T_0u3 2)), (h_0_list, eI cI 160 (T_0u3 3)), (h_0_lies, eI cI 16 (T_0u3 1))]) hCF hK (c_X5_put l D cI cJ h_0_lies 16 (T_0 1) s1 s2 f1 hc2) (cwN 3 hK hts (TBL_C mw_116) rfl rfl rfl (host := RX5) (List.mem_of_getElem? (i := 9) rfl) (List.mem_cons_of_mem _ mw_2) (List.mem_cons_of_mem _ mw_115) pmX5_put.2 ⟨Nat.le_of_ble_eq_true rfl, Nat.le_of_ble_eq_true rfl⟩) hS hA [1] [0, 2, 3] rfl rfl rfl rfl (by decide) rfl hl.1 rfl (Nat.le_of_ble_eq_true rfl) ⟨Nat.zero_le _, Nat.zero_le _⟩ dX4_layOn_27 (by rw [eT_0u3]; rfl) (fun H locs hS => ?_)
    refine lv_iload_n hx hb dX4_layOn_30 rfl (lv_at hl 2 rfl) ?_
    refine lv_bipush (v := (nI 8)) hx hb dX4_layOn_31 (by decide) ?_
    refine lv_icmp_eq (tgt := 45) hx hb dX4_layOn_33 (by decide) (fun c_4 => ?_) (fun c_4 => ?_)
    · replace hF := ifp hF c_4
      have e9_0 := Option.some.inj hF
      subst e9_0
      exact kret _ _ _ _ (hS.sub [0, 3, 1, 2] rfl rfl) dX4_layOn_45
    · replace hF := ifn hF c_4
      refine lv_aload_n hx hb dX4_layOn_36 rfl (lv_at hl 0 rfl) ?_
      refine r_get hx hb hts inX4 hown hK hS 0 2 rfl rfl (by decide) q0 rfl dX4_layOn_37 ?_
      refine lv_iload_n hx hb dX4_layOn_40 rfl (lv_at hl 2 rfl) ?_
      refine lv_iload_n hx hb dX4_layOn_41 rfl (lv_at hl 1 rfl) ?_
      replace hF := cal1_e hF
      obtain ⟨f5, hc6, hF⟩ := hF
      replace hF := bnd_e hF
      obtain ⟨T_0u7, eT_0u7, hF⟩ := hF
      refine kN_v (As := [.ref h_0_tops, .int v3, .int v2]) (rest := []) (wr := [(h_0, oX4 g_0_rules h_0_lies h_0_tops h_0_list T_0u3), (h_0_list, eI cI 160 (T_0u3 3)), (h_0_lies, eI cI 16 (T_0u3 1))]) (w2 := [(h_0, oX4 g_0_rules h_0_lies h_0_tops h_0_list T_0u7), (h_0_list, eI cI 160 (T_0u7 3)), (h_0_lies, eI cI 16 (T_0u7 1)), (h_0_tops, eI cI 10 (T_0u7 2))]) hCF hK (c_X5_put l D cI cJ h_0_tops 10 (T_0u3 2) v3 v2 f5 hc6) (cwN 3 hK hts (TBL_C mw_116) rfl rfl rfl (host := RX5) (List.mem_of_getElem? (i := 9) rfl) (List.mem_cons_of_mem _ mw_2) (List.mem_cons_of_mem _ mw_115) pmX5_put.2 ⟨Nat.le_of_ble_eq_true rfl, Nat.le_of_ble_eq_true rfl⟩) hS hA [1] [0, 2, 3] rfl rfl rfl rfl (by decide) rfl hl.1 rfl (Nat.le_of_ble_eq_true rfl) ⟨Nat.zero_le _, Nat.zero_le _⟩ dX4_layOn_42 (by rw [eT_0u7]; rfl) (fun H locs hS => ?_)
      have e9_0 := Option.some.inj hF
      subst e9_0
      exact kret _ _ _ _ (hS.sub [0, 2, 3, 1] rfl rfl) dX4_layOn_45
  unfold F_X4_layOn at hF
  refine lv_aload_n hx hb dX4_layOn_0 rfl (lv_at hl 0 rfl) ?_
  refine lv_iload_n hx hb dX4_layOn_1 rfl (lv_at hl 3 rfl) ?_
  replace hF := cal1_e hF
  obtain ⟨x8, hc9, hF⟩ := hF
  refine kV_i (As := [.int v3]) (rest := []) (wr := []) (w2 := [(h_0, oX4 g_0_rules h_0_lies h_0_tops h_0_list T_0), (h_0_lies, eI cI 16 (T_0 1)), (h_0_tops, eI cI 10 (T_0 2)), (h_0_list, eI cI 160 (T_0 3))]) hCF hK (c_X4_topOf l D cI cJ h_0 h_0_lies h_0_tops h_0_list g_0_rules T_0 v3 x8 hc9) (cwV 1 hts (TBL_V mw_133 mw_134 mw_135 mw_17 mw_136) rfl rfl rfl pmX4_topOf ⟨Nat.le_of_ble_eq_true rfl, Nat.le_of_ble_eq_true rfl⟩) hS hA [0, 1, 2, 3] [] rfl rfl rfl rfl (by decide) rfl rfl rfl hl.1 rfl (Nat.le_of_ble_eq_true rfl) ⟨Nat.zero_le _, Nat.zero_le _⟩ dX4_layOn_2 rfl (fun H locs hS => ?_)
  refine lv_istore (lv' := [(4, .int x8), (0, .ref h_0), (1, .int v1), (2, .int v2), (3, .int v3)]) hx hb dX4_layOn_5 hl (by decide) rfl (fun ls hl => ?_)
  refine lv_aload_n hx hb dX4_layOn_7 rfl (lv_at hl 1 rfl) ?_
  refine r_get hx hb hts inX4 hown hK hS 0 1 rfl rfl (by decide) q2 rfl dX4_layOn_8 ?_
  refine lv_iload_n hx hb dX4_layOn_11 rfl (lv_at hl 2 rfl) ?_
  refine lv_iload hx hb dX4_layOn_12 (lv_at hl 0 rfl) ?_
  refine lv_iconst (v := (-1)) hx hb dX4_layOn_14 (by decide) ?_
  refine lv_icmp_ne (tgt := 25) hx hb dX4_layOn_15 (by decide) (fun c_10 => ?_) (fun c_10 => ?_)
  · replace hF := ifn hF c_10
    refine lv_iload hx hb dX4_layOn_25 (lv_at hl 0 rfl) ?_
    exact B27 T_0 v2 v3 v1 x8 _ _ _ hS (lv_sub hl [1, 3, 4] rfl) hF
  · replace hF := ifp hF c_10
    refine lv_iload_n hx hb dX4_layOn_18 rfl (lv_at hl 4 rfl) ?_
    replace hF := cal1_e hF
    obtain ⟨x11, hc12, hF⟩ := hF
    refine kS_i (As := [.int v3]) (rest := [.int v1, .ref h_0_lies]) (wr := [(h_0, oX4 g_0_rules h_0_lies h_0_tops h_0_list T_0), (h_0_lies, eI cI 16 (T_0 1)), (h_0_tops, eI cI 10 (T_0 2)), (h_0_list, eI cI 160 (T_0 3))]) (w2 := [(h_0, oX4 g_0_rules h_0_lies h_0_tops h_0_list T_0), (h_0_lies, eI cI 16 (T_0 1)), (h_0_tops, eI cI 10 (T_0 2)), (h_0_list, eI cI 160 (T_0 3))]) hCF hK (c_X4_floorOf l D cI cJ v3 x11 hc12) (va_cwS 1 hts (TBL_S mw_147 mw_148 mw_17 mw_149) rfl rfl rfl pmX4_floorOf.2 ⟨Nat.le_of_ble_eq_true rfl, Nat.le_of_ble_eq_true rfl⟩) hS hA [] [0, 1, 2, 3] rfl rfl rfl rfl (by decide) rfl hl.1 rfl (Nat.le_of_ble_eq_true rfl) ⟨Nat.zero_le _, Nat.zero_le _⟩ dX4_layOn_19 rfl (fun H locs hS => ?_)
    refine lv_goto (tgt := 27) hx hb dX4_layOn_22 (by decide) ?_
    exact B27 T_0 v2 v3 v1 x11 _ _ _ hS (lv_sub hl [1, 3, 4] rfl) hF
set_option maxHeartbeats 4000000 in
set_option maxRecDepth 100000 in
theorem c_X4_carry (l : Launch) (D : va_G) (cI cJ : ClassId) (h_0 h_0_lies h_0_tops h_0_list g_0_rules : Nat) (T_0 : Nat → Nat → Int32) (v1 : Int32) (v2 : Int32) (v3 : Int32) (r_T_0 : Nat → Nat → Int32) (hF : F_X4_carry T_0 v1 v2 v3 = some r_T_0) : CtV l D [(cI, .int), (cJ, .long)] yX4_carry wtX4_carry ({ frames := 2, cells := 0, slots := 0, locals := 47 } : Room) [.ref h_0, .int v1, .int v2, .int v3] [(h_0, oX4 g_0_rules h_0_lies h_0_tops h_0_list T_0), (h_0_lies, eI cI 16 (T_0 1)), (h_0_tops, eI cI 10 (T_0 2)), (h_0_list, eI cI 160 (T_0 3))] [(h_0, oX4 g_0_rules h_0_lies h_0_tops h_0_list r_T_0), (h_0_lies, eI cI 16 (r_T_0 1)), (h_0_tops, eI cI 10 (r_T_0 2)), (h_0_list, eI cI 160 (r_T_0 3))] := by
  refine CtV.of (cc := cX4_carry) (maxL := 7) (by decide) rfl (Nat.le_of_ble_eq_true rfl) ?_
  intro p e s m args below meth c A H0 Q ls X hS hl kret
  have hCF := X.1
  obtain ⟨⟨hx, hb, hml, hown, hts⟩, hK, hA⟩ := X
  have hl : lv_has ls 7 [(0, .ref h_0), (1, .int v1), (2, .int v2), (3, .int v3)] := hl
  have q0 := hts (.fieldLink RX4 22 "Patiencery$Table" "tops" "[I") (List.mem_cons_of_mem _ mw_54)
  have inX4 : ∀ w ∈ u_ws RX4 TX4 7, w ∈ wtX4_carry := fun w h => List.mem_cons_of_mem _ (inlX4 w h)
  have q2 := hts (.fieldLink RX4 32 "Patiencery$Table" "hidden" "I") (List.mem_cons_of_mem _ mw_57)
  have B58 : ∀ (T_0 : Nat → Nat → Int32) (v2 : Int32) (v4 : Int32) (v5 : Int32) (H : Heap) (locs : List Loc) (ls : Array Slot), HS D A H0 [(h_0, oX4 g_0_rules h_0_lies h_0_tops h_0_list T_0), (h_0_lies, eI cI 16 (T_0 1)), (h_0_tops, eI cI 10 (T_0 2)), (h_0_list, eI cI 160 (T_0 3))] H locs → lv_has ls 7 [(0, .ref h_0), (2, .int v2), (4, .int v4), (5, .int v5)] → F_X4_carry_b58   T_0 v2 v4 v5 = some r_T_0 → W p l e ({ frames := 2, cells := 0, slots := 0, locals := 47 } : Room) s m args below meth c H locs 0 0 Q (F0 m 58 ls []) := by
    intro T_0 v2 v4 v5 H locs ls hS hl hF
    unfold F_X4_carry_b58 at hF
    refine lv_aload_n hx hb dX4_carry_58 rfl (lv_at hl 0 rfl) ?_
    refine lv_iload hx hb dX4_carry_59 (lv_at hl 2 rfl) ?_
    refine lv_iload hx hb dX4_carry_61 (lv_at hl 3 rfl) ?_
    refine lv_iload_n hx hb dX4_carry_63 rfl (lv_at hl 1 rfl) ?_
    replace hF := cal1_e hF
    obtain ⟨T_0u1, hc2, hF⟩ := hF
    refine kV_v (As := [.int v4, .int v5, .int v2]) (rest := []) (wr := []) (w2 := [(h_0, oX4 g_0_rules h_0_lies h_0_tops h_0_list T_0u1), (h_0_lies, eI cI 16 (T_0u1 1)), (h_0_tops, eI cI 10 (T_0u1 2)), (h_0_list, eI cI 160 (T_0u1 3))]) hCF hK (c_X4_layOn l D cI cJ h_0 h_0_lies h_0_tops h_0_list g_0_rules T_0 v4 v5 v2 T_0u1 hc2) (cwV 3 hts (TBL_V mw_143 mw_144 mw_145 mw_17 mw_146) rfl rfl rfl pmX4_layOn ⟨Nat.le_of_ble_eq_true rfl, Nat.le_of_ble_eq_true rfl⟩) hS hA [0, 1, 2, 3] [] rfl rfl rfl rfl (by decide) rfl rfl rfl hl.1 rfl (Nat.le_of_ble_eq_true rfl) ⟨Nat.zero_le _, Nat.zero_le _⟩ dX4_carry_64 rfl (fun H locs hS => ?_)
    have e9_0 := Option.some.inj hF
    subst e9_0
    exact kret _ _ _ _ hS dX4_carry_67
  unfold F_X4_carry at hF
  refine lv_aload_n hx hb dX4_carry_0 rfl (lv_at hl 0 rfl) ?_
  refine lv_iload_n hx hb dX4_carry_1 rfl (lv_at hl 1 rfl) ?_
  refine lv_iload_n hx hb dX4_carry_2 rfl (lv_at hl 3 rfl) ?_
  refine lv_iconst (v := (nI 1)) hx hb dX4_carry_3 (by decide) ?_
  refine lv_isub hx hb dX4_carry_4 ?_
  replace hF := cal1_e hF
  obtain ⟨x3, hc4, hF⟩ := hF
  refine kV_i (As := [.int v1, .int (v3 - (nI 1))]) (rest := []) (wr := []) (w2 := [(h_0, oX4 g_0_rules h_0_lies h_0_tops h_0_list T_0), (h_0_lies, eI cI 16 (T_0 1)), (h_0_tops, eI cI 10 (T_0 2)), (h_0_list, eI cI 160 (T_0 3))]) hCF hK (c_X4_fromTop l D cI cJ h_0 h_0_lies h_0_tops h_0_list g_0_rules T_0 v1 (v3 - (nI 1)) x3 hc4) (cwV 2 hts (TBL_V mw_290 mw_291 mw_292 mw_17 mw_293) rfl rfl rfl pmX4_fromTop ⟨Nat.le_of_ble_eq_true rfl, Nat.le_of_ble_eq_true rfl⟩) hS hA [0, 1, 2, 3] [] rfl rfl rfl rfl (by decide) rfl rfl rfl hl.1 rfl (Nat.le_of_ble_eq_true rfl) ⟨Nat.zero_le _, Nat.zero_le _⟩ dX4_carry_5 rfl (fun H locs hS => ?_)
  refine lv_istore (lv' := [(4, .int x3), (0, .ref h_0), (1, .int v1), (2, .int v2), (3, .int v3)]) hx hb dX4_carry_8 hl (by decide) rfl (fun ls hl => ?_)
  refine lv_aload_n hx hb dX4_carry_10 rfl (lv_at hl 1 rfl) ?_
  refine lv_iload_n hx hb dX4_carry_11 rfl (lv_at hl 2 rfl) ?_
  replace hF := cal1_e hF
  obtain ⟨x5, hc6, hF⟩ := hF
  refine kV_i (As := [.int v1]) (rest := []) (wr := []) (w2 := [(h_0, oX4 g_0_rules h_0_lies h_0_tops h_0_list T_0), (h_0_lies, eI cI 16 (T_0 1)), (h_0_tops, eI cI 10 (T_0 2)), (h_0_list, eI cI 160 (T_0 3))]) hCF hK (c_X4_topOf l D cI cJ h_0 h_0_lies h_0_tops h_0_list g_0_rules T_0 v1 x5 hc6) (cwV 1 hts (TBL_V mw_133 mw_134 mw_135 mw_17 mw_136) rfl rfl rfl pmX4_topOf ⟨Nat.le_of_ble_eq_true rfl, Nat.le_of_ble_eq_true rfl⟩) hS hA [0, 1, 2, 3] [] rfl rfl rfl rfl (by decide) rfl rfl rfl hl.1 rfl (Nat.le_of_ble_eq_true rfl) ⟨Nat.zero_le _, Nat.zero_le _⟩ dX4_carry_12 rfl (fun H locs hS => ?_)
  refine lv_istore (lv' := [(5, .int x5), (4, .int x3), (0, .ref h_0), (1, .int v1), (2, .int v2), (3, .int v3)]) hx hb dX4_carry_15 hl (by decide) rfl (fun ls hl => ?_)
  refine lv_aload_n hx hb dX4_carry_17 rfl (lv_at hl 2 rfl) ?_
  refine lv_iload hx hb dX4_carry_18 (lv_at hl 1 rfl) ?_
  replace hF := cal1_e hF
  obtain ⟨x7, hc8, hF⟩ := hF
  refine kV_i (As := [.int x3]) (rest := []) (wr := []) (w2 := [(h_0, oX4 g_0_rules h_0_lies h_0_tops h_0_list T_0), (h_0_lies, eI cI 16 (T_0 1)), (h_0_tops, eI cI 10 (T_0 2)), (h_0_list, eI cI 160 (T_0 3))]) hCF hK (c_X4_under l D cI cJ h_0 h_0_lies h_0_tops h_0_list g_0_rules T_0 x3 x7 hc8) (cwV 1 hts (TBL_V mw_249 mw_250 mw_251 mw_17 mw_252) rfl rfl rfl pmX4_under ⟨Nat.le_of_ble_eq_true rfl, Nat.le_of_ble_eq_true rfl⟩) hS hA [0, 1, 2, 3] [] rfl rfl rfl rfl (by decide) rfl rfl rfl hl.1 rfl (Nat.le_of_ble_eq_true rfl) ⟨Nat.zero_le _, Nat.zero_le _⟩ dX4_carry_20 rfl (fun H locs hS => ?_)
  refine lv_istore (lv' := [(6, .int x7), (5, .int x5), (4, .int x3), (0, .ref h_0), (1, .int v1), (2, .int v2), (3, .int v3)]) hx hb dX4_carry_23 hl (by decide) rfl (fun ls hl => ?_)
  refine lv_aload_n hx hb dX4_carry_25 rfl (lv_at hl 3 rfl) ?_
  refine r_get hx hb hts inX4 hown hK hS 0 2 rfl rfl (by decide) q0 rfl dX4_carry_26 ?_
  refine lv_iload_n hx hb dX4_carry_29 rfl (lv_at hl 4 rfl) ?_
  refine lv_iload hx hb dX4_carry_30 (lv_at hl 0 rfl) ?_
  replace hF := cal1_e hF
  obtain ⟨f9, hc10, hF⟩ := hF
  replace hF := bnd_e hF
  obtain ⟨T_0u11, eT_0u11, hF⟩ := hF
  refine kN_v (As := [.ref h_0_tops, .int v1, .int x7]) (rest := []) (wr := [(h_0, oX4 g_0_rules h_0_lies h_0_tops h_0_list T_0), (h_0_lies, eI cI 16 (T_0 1)), (h_0_list, eI cI 160 (T_0 3))]) (w2 := [(h_0, oX4 g_0_rules h_0_lies h_0_tops h_0_list T_0u11), (h_0_lies, eI cI 16 (T_0u11 1)), (h_0_list, eI cI 160 (T_0u11 3)), (h_0_tops, eI cI 10 (T_0u11 2))]) hCF hK (c_X5_put l D cI cJ h_0_tops 10 (T_0 2) v1 x7 f9 hc10) (cwN 3 hK hts (TBL_C mw_116) rfl rfl rfl (host := RX5) (List.mem_of_getElem? (i := 9) rfl) (List.mem_cons_of_mem _ mw_2) (List.mem_cons_of_mem _ mw_115) pmX5_put.2 ⟨Nat.le_of_ble_eq_true rfl, Nat.le_of_ble_eq_true rfl⟩) hS hA [2] [0, 1, 3] rfl rfl rfl rfl (by decide) rfl hl.1 rfl (Nat.le_of_ble_eq_true rfl) ⟨Nat.zero_le _, Nat.zero_le _⟩ dX4_carry_32 (by rw [eT_0u11]; rfl) (fun H locs hS => ?_)
  refine lv_iload hx hb dX4_carry_35 (lv_at hl 0 rfl) ?_
  replace hF := cal1_e hF
  obtain ⟨x12, hc13, hF⟩ := hF
  refine kN_i (As := [.int x7]) (rest := []) (wr := [(h_0, oX4 g_0_rules h_0_lies h_0_tops h_0_list T_0u11), (h_0_lies, eI cI 16 (T_0u11 1)), (h_0_list, eI cI 160 (T_0u11 3)), (h_0_tops, eI cI 10 (T_0u11 2))]) (w2 := [(h_0, oX4 g_0_rules h_0_lies h_0_tops h_0_list T_0u11), (h_0_lies, eI cI 16 (T_0u11 1)), (h_0_list, eI cI 160 (T_0u11 3)), (h_0_tops, eI cI 10 (T_0u11 2))]) hCF hK (c_X5_isCard l D cI cJ x7 x12 hc13) (cwN 1 hK hts (TBL_C mw_138) rfl rfl rfl (host := RX5) (List.mem_of_getElem? (i := 8) rfl) (List.mem_cons_of_mem _ mw_2) (List.mem_cons_of_mem _ mw_137) pmX5_isCard.2 ⟨Nat.le_of_ble_eq_true rfl, Nat.le_of_ble_eq_true rfl⟩) hS hA [] [0, 1, 2, 3] rfl rfl rfl rfl (by decide) rfl hl.1 rfl (Nat.le_of_ble_eq_true rfl) ⟨Nat.zero_le _, Nat.zero_le _⟩ dX4_carry_37 rfl (fun H locs hS => ?_)
  refine lv_if_eq (tgt := 58) hx hb dX4_carry_40 (by decide) (fun c_14 => ?_) (fun c_14 => ?_)
  · replace hF := ifp hF c_14
    exact B58 T_0u11 v2 x3 x5 _ _ _ (hS.sub [0, 1, 3, 2] rfl rfl) (lv_sub hl [3, 5, 2, 1] rfl) hF
  · replace hF := ifn hF c_14
    refine lv_aload_n hx hb dX4_carry_43 rfl (lv_at hl 3 rfl) ?_
    refine lv_dup hx hb dX4_carry_44 rfl ?_
    refine r_get hx hb hts inX4 hown hK hS 0 5 rfl rfl (by decide) q2 rfl dX4_carry_45 ?_
    refine lv_iconst (v := (nI 1)) hx hb dX4_carry_48 (by decide) ?_
    refine lv_iload hx hb dX4_carry_49 (lv_at hl 0 rfl) ?_
    refine lv_ishl hx hb dX4_carry_51 ?_
    refine lv_iconst (v := (-1)) hx hb dX4_carry_52 (by decide) ?_
    refine lv_ixor hx hb dX4_carry_53 ?_
    refine lv_iand hx hb dX4_carry_54 ?_
    replace hF := bnd_e hF
    obtain ⟨T_0u15, eT_0u15, hF⟩ := hF
    refine r_put (w2 := [(h_0, oX4 g_0_rules h_0_lies h_0_tops h_0_list T_0u15), (h_0_lies, eI cI 16 (T_0u15 1)), (h_0_list, eI cI 160 (T_0u15 3)), (h_0_tops, eI cI 10 (T_0u15 2))]) hx hb hts inX4 tyX4 tyX4_ok nmX4 hown hK hS 0 5 rfl rfl (by decide) q2 rfl rfl rfl (Nat.le_of_ble_eq_true rfl) dX4_carry_55 (by rw [eT_0u15]; rfl) (fun H locs hS => ?_)
    exact B58 T_0u15 v2 x3 x5 _ _ _ (hS.sub [0, 1, 3, 2] rfl rfl) (lv_sub hl [3, 5, 2, 1] rfl) hF
set_option maxHeartbeats 4000000 in
set_option maxRecDepth 100000 in
theorem c_X4_turnOver (l : Launch) (D : va_G) (cI cJ : ClassId) (h_0 h_0_lies h_0_tops h_0_list g_0_rules : Nat) (T_0 : Nat → Nat → Int32) (r_T_0 : Nat → Nat → Int32) (hF : F_X4_turnOver T_0 = some r_T_0) : CtV l D [(cI, .int), (cJ, .long)] yX4_turnOver wtX4_turnOver ({ frames := 3, cells := 0, slots := 0, locals := 73 } : Room) [.ref h_0] [(h_0, oX4 g_0_rules h_0_lies h_0_tops h_0_list T_0), (h_0_lies, eI cI 16 (T_0 1)), (h_0_tops, eI cI 10 (T_0 2)), (h_0_list, eI cI 160 (T_0 3))] [(h_0, oX4 g_0_rules h_0_lies h_0_tops h_0_list r_T_0), (h_0_lies, eI cI 16 (r_T_0 1)), (h_0_tops, eI cI 10 (r_T_0 2)), (h_0_list, eI cI 160 (r_T_0 3))] := by
  refine CtV.of (cc := cX4_turnOver) (maxL := 2) (by decide) rfl (Nat.le_of_ble_eq_true rfl) ?_
  intro p e s m args below meth c A H0 Q ls X hS hl kret
  have hCF := X.1
  obtain ⟨⟨hx, hb, hml, hown, hts⟩, hK, hA⟩ := X
  have hl : lv_has ls 2 [(0, .ref h_0)] := hl
  have q0 := hts (.fieldLink RX4 35 "Patiencery$Table" "turned" "I") (List.mem_cons_of_mem _ mw_58)
  have inX4 : ∀ w ∈ u_ws RX4 TX4 7, w ∈ wtX4_turnOver := fun w h => List.mem_cons_of_mem _ (inlX4 w h)
  have B33 : ∀ (T_0 : Nat → Nat → Int32) (H : Heap) (locs : List Loc) (ls : Array Slot), HS D A H0 [(h_0, oX4 g_0_rules h_0_lies h_0_tops h_0_list T_0), (h_0_lies, eI cI 16 (T_0 1)), (h_0_tops, eI cI 10 (T_0 2)), (h_0_list, eI cI 160 (T_0 3))] H locs → lv_has ls 2 [(0, .ref h_0)] → F_X4_turnOver_b33   T_0 = some r_T_0 → W p l e ({ frames := 3, cells := 0, slots := 0, locals := 73 } : Room) s m args below meth c H locs 0 0 Q (F0 m 33 ls []) := by
    intro T_0 H locs ls hS hl hF
    unfold F_X4_turnOver_b33 at hF
    refine lv_aload_n hx hb dX4_turnOver_33 rfl (lv_at hl 0 rfl) ?_
    refine lv_dup hx hb dX4_turnOver_34 rfl ?_
    refine r_get hx hb hts inX4 hown hK hS 0 6 rfl rfl (by decide) q0 rfl dX4_turnOver_35 ?_
    refine lv_iconst (v := (nI 1)) hx hb dX4_turnOver_38 (by decide) ?_
    refine lv_iadd hx hb dX4_turnOver_39 ?_
    replace hF := bnd_e hF
    obtain ⟨T_0u1, eT_0u1, hF⟩ := hF
    refine r_put (w2 := [(h_0, oX4 g_0_rules h_0_lies h_0_tops h_0_list T_0u1), (h_0_lies, eI cI 16 (T_0u1 1)), (h_0_tops, eI cI 10 (T_0u1 2)), (h_0_list, eI cI 160 (T_0u1 3))]) hx hb hts inX4 tyX4 tyX4_ok nmX4 hown hK hS 0 6 rfl rfl (by decide) q0 rfl rfl rfl (Nat.le_of_ble_eq_true rfl) dX4_turnOver_40 (by rw [eT_0u1]; rfl) (fun H locs hS => ?_)
    have e9_0 := Option.some.inj hF
    subst e9_0
    exact kret _ _ _ _ hS dX4_turnOver_43
  have S2 : ∀ (K2 : (Nat → Nat → Int32) → Int32 → Option ((Nat → Nat → Int32))) (_ : ∀ (T_0 : Nat → Nat → Int32) (v1 : Int32) (H : Heap) (locs : List Loc) (ls : Array Slot), HS D A H0 [(h_0, oX4 g_0_rules h_0_lies h_0_tops h_0_list T_0), (h_0_lies, eI cI 16 (T_0 1)), (h_0_tops, eI cI 10 (T_0 2)), (h_0_list, eI cI 160 (T_0 3))] H locs → lv_has ls 2 [(0, .ref h_0), (1, .int v1)] → K2 T_0 v1 = some r_T_0 → W p l e ({ frames := 3, cells := 0, slots := 0, locals := 73 } : Room) s m args below meth c H locs 0 0 Q (F0 m 2 ls [])) (T_0 : Nat → Nat → Int32) (v1 : Int32) (H : Heap) (locs : List Loc) (ls : Array Slot), HS D A H0 [(h_0, oX4 g_0_rules h_0_lies h_0_tops h_0_list T_0), (h_0_lies, eI cI 16 (T_0 1)), (h_0_tops, eI cI 10 (T_0 2)), (h_0_list, eI cI 160 (T_0 3))] H locs → lv_has ls 2 [(0, .ref h_0), (1, .int v1)] → F_X4_turnOver_s2  K2 T_0 v1 = some r_T_0 → W p l e ({ frames := 3, cells := 0, slots := 0, locals := 73 } : Room) s m args below meth c H locs 0 0 Q (F0 m 2 ls []) := by
    intro K2 hK2 T_0 v1 H locs ls hS hl hF
    unfold F_X4_turnOver_s2 at hF
    refine lv_iload_n hx hb dX4_turnOver_2 rfl (lv_at hl 1 rfl) ?_
    refine lv_bipush (v := (nI 16)) hx hb dX4_turnOver_3 (by decide) ?_
    refine lv_icmp_ge (tgt := 33) hx hb dX4_turnOver_5 (by decide) (fun c_2 => ?_) (fun c_2 => ?_)
    · replace hF := ifp hF c_2
      exact B33 T_0 _ _ _ hS (lv_sub hl [0] rfl) hF
    · replace hF := ifn hF c_2
      refine lv_aload_n hx hb dX4_turnOver_8 rfl (lv_at hl 0 rfl) ?_
      refine lv_bipush (v := (nI 7)) hx hb dX4_turnOver_9 (by decide) ?_
      replace hF := cal1_e hF
      obtain ⟨x3, hc4, hF⟩ := hF
      refine kV_i (As := [.int (nI 7)]) (rest := []) (wr := []) (w2 := [(h_0, oX4 g_0_rules h_0_lies h_0_tops h_0_list T_0), (h_0_lies, eI cI 16 (T_0 1)), (h_0_tops, eI cI 10 (T_0 2)), (h_0_list, eI cI 160 (T_0 3))]) hCF hK (c_X4_topOf l D cI cJ h_0 h_0_lies h_0_tops h_0_list g_0_rules T_0 (nI 7) x3 hc4) (cwV 1 hts (TBL_V mw_133 mw_134 mw_135 mw_17 mw_136) rfl rfl rfl pmX4_topOf ⟨Nat.le_of_ble_eq_true rfl, Nat.le_of_ble_eq_true rfl⟩) hS hA [0, 1, 2, 3] [] rfl rfl rfl rfl (by decide) rfl rfl rfl hl.1 rfl (Nat.le_of_ble_eq_true rfl) ⟨Nat.zero_le _, Nat.zero_le _⟩ dX4_turnOver_11 rfl (fun H locs hS => ?_)
      refine lv_iconst (v := (-1)) hx hb dX4_turnOver_14 (by decide) ?_
      refine lv_icmp_eq (tgt := 33) hx hb dX4_turnOver_15 (by decide) (fun c_5 => ?_) (fun c_5 => ?_)
      · replace hF := ifp hF c_5
        exact B33 T_0 _ _ _ hS (lv_sub hl [0] rfl) hF
      · replace hF := ifn hF c_5
        refine lv_aload_n hx hb dX4_turnOver_18 rfl (lv_at hl 0 rfl) ?_
        refine lv_bipush (v := (nI 7)) hx hb dX4_turnOver_19 (by decide) ?_
        refine lv_bipush (v := (nI 9)) hx hb dX4_turnOver_21 (by decide) ?_
        refine lv_iconst (v := (nI 1)) hx hb dX4_turnOver_23 (by decide) ?_
        replace hF := cal1_e hF
        obtain ⟨T_0u6, hc7, hF⟩ := hF
        refine kV_v (As := [.int (nI 7), .int (nI 9), .int (nI 1)]) (rest := []) (wr := []) (w2 := [(h_0, oX4 g_0_rules h_0_lies h_0_tops h_0_list T_0u6), (h_0_lies, eI cI 16 (T_0u6 1)), (h_0_tops, eI cI 10 (T_0u6 2)), (h_0_list, eI cI 160 (T_0u6 3))]) hCF hK (c_X4_carry l D cI cJ h_0 h_0_lies h_0_tops h_0_list g_0_rules T_0 (nI 7) (nI 9) (nI 1) T_0u6 hc7) (cwV 3 hts (TBL_V mw_355 mw_356 mw_357 mw_17 mw_358) rfl rfl rfl pmX4_carry ⟨Nat.le_of_ble_eq_true rfl, Nat.le_of_ble_eq_true rfl⟩) hS hA [0, 1, 2, 3] [] rfl rfl rfl rfl (by decide) rfl rfl rfl hl.1 rfl (Nat.le_of_ble_eq_true rfl) ⟨Nat.zero_le _, Nat.zero_le _⟩ dX4_turnOver_24 rfl (fun H locs hS => ?_)
        refine lv_iinc (v := v1 + (nI 1)) (lv' := [(1, .int (v1 + (nI 1))), (0, .ref h_0)]) hx hb dX4_turnOver_27 hl (k := 1) rfl rfl (by decide) rfl (fun ls hl => ?_)
        refine lv_goto (tgt := 2) hx hb dX4_turnOver_30 (by decide) ?_
        exact hK2 T_0u6 (v1 + (nI 1)) _ _ _ hS (lv_sub hl [1, 0] rfl) hF
  have L2 : ∀  (n : Nat) (T_0 : Nat → Nat → Int32) (v1 : Int32) (H : Heap) (locs : List Loc) (ls : Array Slot), HS D A H0 [(h_0, oX4 g_0_rules h_0_lies h_0_tops h_0_list T_0), (h_0_lies, eI cI 16 (T_0 1)), (h_0_tops, eI cI 10 (T_0 2)), (h_0_list, eI cI 160 (T_0 3))] H locs → lv_has ls 2 [(0, .ref h_0), (1, .int v1)] → F_X4_turnOver_L2   n T_0 v1 = some r_T_0 → W p l e ({ frames := 3, cells := 0, slots := 0, locals := 73 } : Room) s m args below meth c H locs 0 0 Q (F0 m 2 ls []) := by
    intro  n
    induction n with
    | zero => intro T_0 v1 H locs ls hS hl hF; exact nomatch (show (none : Option ((Nat → Nat → Int32))) = some _ from hF)
    | succ n ih => intro T_0 v1 H locs ls hS hl hF; exact S2  _ ih T_0 v1 H locs ls hS hl hF
  unfold F_X4_turnOver at hF
  refine lv_iconst (v := (nI 0)) hx hb dX4_turnOver_0 (by decide) ?_
  refine lv_istore_n (lv' := [(1, .int (nI 0)), (0, .ref h_0)]) hx hb dX4_turnOver_1 rfl hl (by decide) rfl (fun ls hl => ?_)
  exact L2 FU T_0 (nI 0) _ _ _ hS (lv_sub hl [1, 0] rfl) hF
set_option maxHeartbeats 4000000 in
set_option maxRecDepth 100000 in
theorem c_X4_play (l : Launch) (D : va_G) (cI cJ : ClassId) (h_0 h_0_lies h_0_tops h_0_list g_0_rules : Nat) (T_0 : Nat → Nat → Int32) (v1 : Int32) (r_T_0 : Nat → Nat → Int32) (hF : F_X4_play T_0 v1 = some r_T_0) : CtV l D [(cI, .int), (cJ, .long)] yX4_play wtX4_play ({ frames := 4, cells := 0, slots := 0, locals := 94 } : Room) [.ref h_0, .int v1] [(h_0, oX4 g_0_rules h_0_lies h_0_tops h_0_list T_0), (h_0_lies, eI cI 16 (T_0 1)), (h_0_tops, eI cI 10 (T_0 2)), (h_0_list, eI cI 160 (T_0 3))] [(h_0, oX4 g_0_rules h_0_lies h_0_tops h_0_list r_T_0), (h_0_lies, eI cI 16 (r_T_0 1)), (h_0_tops, eI cI 10 (r_T_0 2)), (h_0_list, eI cI 160 (r_T_0 3))] := by
  refine CtV.of (cc := cX4_play) (maxL := 3) (by decide) rfl (Nat.le_of_ble_eq_true rfl) ?_
  intro p e s m args below meth c A H0 Q ls X hS hl kret
  have hCF := X.1
  obtain ⟨⟨hx, hb, hml, hown, hts⟩, hK, hA⟩ := X
  have hl : lv_has ls 3 [(0, .ref h_0), (1, .int v1)] := hl
  unfold F_X4_play at hF
  refine lv_iload_n hx hb dX4_play_0 rfl (lv_at hl 1 rfl) ?_
  refine lv_sipush (v := (nI 1000)) hx hb dX4_play_1 (by decide) ?_
  replace hF := nz_e hF
  obtain ⟨hne1, hF⟩ := hF
  refine lv_idiv hx hb dX4_play_4 hne1 ?_
  refine lv_istore_n (lv' := [(2, .int (v1 / (nI 1000))), (0, .ref h_0), (1, .int v1)]) hx hb dX4_play_5 rfl hl (by decide) rfl (fun ls hl => ?_)
  refine lv_iload_n hx hb dX4_play_6 rfl (lv_at hl 0 rfl) ?_
  refine lv_bipush (v := (nI 9)) hx hb dX4_play_7 (by decide) ?_
  refine lv_icmp_eq (tgt := 31) hx hb dX4_play_9 (by decide) (fun c_2 => ?_) (fun c_2 => ?_)
  · replace hF := ifp hF c_2
    refine lv_aload_n hx hb dX4_play_31 rfl (lv_at hl 1 rfl) ?_
    refine lv_bipush (v := (nI 9)) hx hb dX4_play_32 (by decide) ?_
    replace hF := cal1_e hF
    obtain ⟨x3, hc4, hF⟩ := hF
    refine kV_i (As := [.int (nI 9)]) (rest := []) (wr := []) (w2 := [(h_0, oX4 g_0_rules h_0_lies h_0_tops h_0_list T_0), (h_0_lies, eI cI 16 (T_0 1)), (h_0_tops, eI cI 10 (T_0 2)), (h_0_list, eI cI 160 (T_0 3))]) hCF hK (c_X4_topOf l D cI cJ h_0 h_0_lies h_0_tops h_0_list g_0_rules T_0 (nI 9) x3 hc4) (cwV 1 hts (TBL_V mw_133 mw_134 mw_135 mw_17 mw_136) rfl rfl rfl pmX4_topOf ⟨Nat.le_of_ble_eq_true rfl, Nat.le_of_ble_eq_true rfl⟩) hS hA [0, 1, 2, 3] [] rfl rfl rfl rfl (by decide) rfl rfl rfl hl.1 rfl (Nat.le_of_ble_eq_true rfl) ⟨Nat.zero_le _, Nat.zero_le _⟩ dX4_play_34 rfl (fun H locs hS => ?_)
    refine lv_iconst (v := (-1)) hx hb dX4_play_37 (by decide) ?_
    refine lv_icmp_eq (tgt := 53) hx hb dX4_play_38 (by decide) (fun c_5 => ?_) (fun c_5 => ?_)
    · replace hF := ifp hF c_5
      refine lv_aload_n hx hb dX4_play_53 rfl (lv_at hl 1 rfl) ?_
      replace hF := cal1_e hF
      obtain ⟨T_0u6, hc7, hF⟩ := hF
      refine kV_v (As := []) (rest := []) (wr := []) (w2 := [(h_0, oX4 g_0_rules h_0_lies h_0_tops h_0_list T_0u6), (h_0_lies, eI cI 16 (T_0u6 1)), (h_0_tops, eI cI 10 (T_0u6 2)), (h_0_list, eI cI 160 (T_0u6 3))]) hCF hK (c_X4_turnOver l D cI cJ h_0 h_0_lies h_0_tops h_0_list g_0_rules T_0 T_0u6 hc7) (cwV 0 hts (TBL_V mw_359 mw_360 mw_361 mw_17 mw_362) rfl rfl rfl pmX4_turnOver ⟨Nat.le_of_ble_eq_true rfl, Nat.le_of_ble_eq_true rfl⟩) hS hA [0, 1, 2, 3] [] rfl rfl rfl rfl (by decide) rfl rfl rfl hl.1 rfl (Nat.le_of_ble_eq_true rfl) ⟨Nat.zero_le _, Nat.zero_le _⟩ dX4_play_54 rfl (fun H locs hS => ?_)
      have e9_0 := Option.some.inj hF
      subst e9_0
      exact kret _ _ _ _ hS dX4_play_57
    · replace hF := ifn hF c_5
      refine lv_aload_n hx hb dX4_play_41 rfl (lv_at hl 1 rfl) ?_
      refine lv_bipush (v := (nI 9)) hx hb dX4_play_42 (by decide) ?_
      refine lv_bipush (v := (nI 7)) hx hb dX4_play_44 (by decide) ?_
      refine lv_iconst (v := (nI 1)) hx hb dX4_play_46 (by decide) ?_
      replace hF := cal1_e hF
      obtain ⟨T_0u8, hc9, hF⟩ := hF
      refine kV_v (As := [.int (nI 9), .int (nI 7), .int (nI 1)]) (rest := []) (wr := []) (w2 := [(h_0, oX4 g_0_rules h_0_lies h_0_tops h_0_list T_0u8), (h_0_lies, eI cI 16 (T_0u8 1)), (h_0_tops, eI cI 10 (T_0u8 2)), (h_0_list, eI cI 160 (T_0u8 3))]) hCF hK (c_X4_carry l D cI cJ h_0 h_0_lies h_0_tops h_0_list g_0_rules T_0 (nI 9) (nI 7) (nI 1) T_0u8 hc9) (cwV 3 hts (TBL_V mw_355 mw_356 mw_357 mw_17 mw_358) rfl rfl rfl pmX4_carry ⟨Nat.le_of_ble_eq_true rfl, Nat.le_of_ble_eq_true rfl⟩) hS hA [0, 1, 2, 3] [] rfl rfl rfl rfl (by decide) rfl rfl rfl hl.1 rfl (Nat.le_of_ble_eq_true rfl) ⟨Nat.zero_le _, Nat.zero_le _⟩ dX4_play_47 rfl (fun H locs hS => ?_)
      refine lv_goto (tgt := 57) hx hb dX4_play_50 (by decide) ?_
      have e9_0 := Option.some.inj hF
      subst e9_0
      exact kret _ _ _ _ hS dX4_play_57
  · replace hF := ifn hF c_2
    refine lv_aload_n hx hb dX4_play_12 rfl (lv_at hl 1 rfl) ?_
    refine lv_iload_n hx hb dX4_play_13 rfl (lv_at hl 0 rfl) ?_
    refine lv_iload_n hx hb dX4_play_14 rfl (lv_at hl 2 rfl) ?_
    refine lv_bipush (v := (nI 100)) hx hb dX4_play_15 (by decide) ?_
    replace hF := nz_e hF
    obtain ⟨hne10, hF⟩ := hF
    refine lv_idiv hx hb dX4_play_17 hne10 ?_
    refine lv_bipush (v := (nI 10)) hx hb dX4_play_18 (by decide) ?_
    replace hF := nz_e hF
    obtain ⟨hne11, hF⟩ := hF
    refine lv_irem hx hb dX4_play_20 hne11 ?_
    refine lv_iload_n hx hb dX4_play_21 rfl (lv_at hl 2 rfl) ?_
    refine lv_bipush (v := (nI 100)) hx hb dX4_play_22 (by decide) ?_
    replace hF := nz_e hF
    obtain ⟨hne12, hF⟩ := hF
    refine lv_irem hx hb dX4_play_24 hne12 ?_
    replace hF := cal1_e hF
    obtain ⟨T_0u13, hc14, hF⟩ := hF
    refine kV_v (As := [.int (v1 / (nI 1000)), .int ((v1 / (nI 100)) - (v1 / (nI 100)) / (nI 10) * (nI 10)), .int (v1 - v1 / (nI 100) * (nI 100))]) (rest := []) (wr := []) (w2 := [(h_0, oX4 g_0_rules h_0_lies h_0_tops h_0_list T_0u13), (h_0_lies, eI cI 16 (T_0u13 1)), (h_0_tops, eI cI 10 (T_0u13 2)), (h_0_list, eI cI 160 (T_0u13 3))]) hCF hK (c_X4_carry l D cI cJ h_0 h_0_lies h_0_tops h_0_list g_0_rules T_0 (v1 / (nI 1000)) ((v1 / (nI 100)) - (v1 / (nI 100)) / (nI 10) * (nI 10)) (v1 - v1 / (nI 100) * (nI 100)) T_0u13 hc14) (cwV 3 hts (TBL_V mw_355 mw_356 mw_357 mw_17 mw_358) rfl rfl rfl pmX4_carry ⟨Nat.le_of_ble_eq_true rfl, Nat.le_of_ble_eq_true rfl⟩) hS hA [0, 1, 2, 3] [] rfl rfl rfl rfl (by decide) rfl rfl rfl hl.1 rfl (Nat.le_of_ble_eq_true rfl) ⟨Nat.zero_le _, Nat.zero_le _⟩ dX4_play_25 rfl (fun H locs hS => ?_)
    refine lv_goto (tgt := 57) hx hb dX4_play_28 (by decide) ?_
    have e9_0 := Option.some.inj hF
    subst e9_0
    exact kret _ _ _ _ hS dX4_play_57
set_option maxHeartbeats 4000000 in
set_option maxRecDepth 100000 in
theorem c_X4_listMoves (l : Launch) (D : va_G) (cI cJ : ClassId) (h_0 h_0_lies h_0_tops h_0_list h_0_rules : Nat) (r_0_rules : Nat → Int32) (T_0 : Nat → Nat → Int32) (r_T_0 : Nat → Nat → Int32) (hF : F_X4_listMoves r_0_rules T_0 = some r_T_0) : CtV l D [(cI, .int), (cJ, .long)] yX4_listMoves wtX4_listMoves ({ frames := 4, cells := 0, slots := 0, locals := 91 } : Room) [.ref h_0] [(h_0, oX4 h_0_rules h_0_lies h_0_tops h_0_list T_0), (h_0_lies, eI cI 16 (T_0 1)), (h_0_tops, eI cI 10 (T_0 2)), (h_0_list, eI cI 160 (T_0 3)), (h_0_rules, oX1 r_0_rules)] [(h_0, oX4 h_0_rules h_0_lies h_0_tops h_0_list r_T_0), (h_0_lies, eI cI 16 (r_T_0 1)), (h_0_tops, eI cI 10 (r_T_0 2)), (h_0_list, eI cI 160 (r_T_0 3)), (h_0_rules, oX1 r_0_rules)] := by
  refine CtV.of (cc := cX4_listMoves) (maxL := 6) (by decide) rfl (Nat.le_of_ble_eq_true rfl) ?_
  intro p e s m args below meth c A H0 Q ls X hS hl kret
  have hCF := X.1
  obtain ⟨⟨hx, hb, hml, hown, hts⟩, hK, hA⟩ := X
  have hl : lv_has ls 6 [(0, .ref h_0)] := hl
  have q0 := hts (.fieldLink RX4 28 "Patiencery$Table" "listed" "I") (List.mem_cons_of_mem _ mw_56)
  have inX4 : ∀ w ∈ u_ws RX4 TX4 7, w ∈ wtX4_listMoves := fun w h => List.mem_cons_of_mem _ (inlX4 w h)
  have q2 := hts (.fieldLink RX4 25 "Patiencery$Table" "list" "[I") (List.mem_cons_of_mem _ mw_55)
  have S73 : ∀ (K7 : (Nat → Nat → Int32) → Int32 → Option ((Nat → Nat → Int32))) (_ : ∀ (T_0 : Nat → Nat → Int32) (v1 : Int32) (H : Heap) (locs : List Loc) (ls : Array Slot), HS D A H0 [(h_0, oX4 h_0_rules h_0_lies h_0_tops h_0_list T_0), (h_0_lies, eI cI 16 (T_0 1)), (h_0_tops, eI cI 10 (T_0 2)), (h_0_list, eI cI 160 (T_0 3)), (h_0_rules, oX1 r_0_rules)] H locs → lv_has ls 6 [(0, .ref h_0), (1, .int v1)] → K7 T_0 v1 = some r_T_0 → W p l e ({ frames := 4, cells := 0, slots := 0, locals := 91 } : Room) s m args below meth c H locs 0 0 Q (F0 m 7 ls [])) (K50 : (Nat → Nat → Int32) → Int32 → Int32 → Int32 → Option ((Nat → Nat → Int32))) (_ : ∀ (T_0 : Nat → Nat → Int32) (v1 : Int32) (v2 : Int32) (v3 : Int32) (H : Heap) (locs : List Loc) (ls : Array Slot), HS D A H0 [(h_0, oX4 h_0_rules h_0_lies h_0_tops h_0_list T_0), (h_0_lies, eI cI 16 (T_0 1)), (h_0_tops, eI cI 10 (T_0 2)), (h_0_list, eI cI 160 (T_0 3)), (h_0_rules, oX1 r_0_rules)] H locs → lv_has ls 6 [(0, .ref h_0), (1, .int v1), (2, .int v2), (3, .int v3)] → K50 T_0 v1 v2 v3 = some r_T_0 → W p l e ({ frames := 4, cells := 0, slots := 0, locals := 91 } : Room) s m args below meth c H locs 0 0 Q (F0 m 50 ls [])) (K73 : (Nat → Nat → Int32) → Int32 → Int32 → Int32 → Int32 → Int32 → Option ((Nat → Nat → Int32))) (_ : ∀ (T_0 : Nat → Nat → Int32) (v1 : Int32) (v2 : Int32) (v3 : Int32) (v4 : Int32) (v5 : Int32) (H : Heap) (locs : List Loc) (ls : Array Slot), HS D A H0 [(h_0, oX4 h_0_rules h_0_lies h_0_tops h_0_list T_0), (h_0_lies, eI cI 16 (T_0 1)), (h_0_tops, eI cI 10 (T_0 2)), (h_0_list, eI cI 160 (T_0 3)), (h_0_rules, oX1 r_0_rules)] H locs → lv_has ls 6 [(0, .ref h_0), (1, .int v1), (2, .int v2), (3, .int v3), (4, .int v4), (5, .int v5)] → K73 T_0 v1 v2 v3 v4 v5 = some r_T_0 → W p l e ({ frames := 4, cells := 0, slots := 0, locals := 91 } : Room) s m args below meth c H locs 0 0 Q (F0 m 73 ls [])) (T_0 : Nat → Nat → Int32) (v1 : Int32) (v2 : Int32) (v3 : Int32) (v4 : Int32) (v5 : Int32) (H : Heap) (locs : List Loc) (ls : Array Slot), HS D A H0 [(h_0, oX4 h_0_rules h_0_lies h_0_tops h_0_list T_0), (h_0_lies, eI cI 16 (T_0 1)), (h_0_tops, eI cI 10 (T_0 2)), (h_0_list, eI cI 160 (T_0 3)), (h_0_rules, oX1 r_0_rules)] H locs → lv_has ls 6 [(0, .ref h_0), (1, .int v1), (2, .int v2), (3, .int v3), (4, .int v4), (5, .int v5)] → F_X4_listMoves_s73 r_0_rules K7 K50 K73 T_0 v1 v2 v3 v4 v5 = some r_T_0 → W p l e ({ frames := 4, cells := 0, slots := 0, locals := 91 } : Room) s m args below meth c H locs 0 0 Q (F0 m 73 ls []) := by
    intro K7 hK7 K50 hK50 K73 hK73 T_0 v1 v2 v3 v4 v5 H locs ls hS hl hF
    unfold F_X4_listMoves_s73 at hF
    refine lv_iload hx hb dX4_listMoves_73 (lv_at hl 5 rfl) ?_
    refine lv_iload hx hb dX4_listMoves_75 (lv_at hl 4 rfl) ?_
    refine lv_icmp_gt (tgt := 135) hx hb dX4_listMoves_77 (by decide) (fun c_1 => ?_) (fun c_1 => ?_)
    · replace hF := ifp hF c_1
      refine lv_iinc (v := v3 + (nI 1)) (lv' := [(3, .int (v3 + (nI 1))), (0, .ref h_0), (1, .int v1), (2, .int v2), (4, .int v4), (5, .int v5)]) hx hb dX4_listMoves_135 hl (k := 3) rfl rfl (by decide) rfl (fun ls hl => ?_)
      refine lv_goto (tgt := 50) hx hb dX4_listMoves_138 (by decide) ?_
      exact hK50 T_0 v1 v2 (v3 + (nI 1)) _ _ _ hS (lv_sub hl [1, 2, 3, 0] rfl) hF
    · replace hF := ifn hF c_1
      refine lv_aload_n hx hb dX4_listMoves_80 rfl (lv_at hl 0 rfl) ?_
      refine r_get hx hb hts inX4 hown hK hS 0 4 rfl rfl (by decide) q0 rfl dX4_listMoves_81 ?_
      refine lv_sipush (v := (nI 160)) hx hb dX4_listMoves_84 (by decide) ?_
      refine lv_icmp_ge (tgt := 129) hx hb dX4_listMoves_87 (by decide) (fun c_2 => ?_) (fun c_2 => ?_)
      · replace hF := ifp hF c_2
        refine lv_iinc (v := v5 + (nI 1)) (lv' := [(5, .int (v5 + (nI 1))), (0, .ref h_0), (1, .int v1), (2, .int v2), (3, .int v3), (4, .int v4)]) hx hb dX4_listMoves_129 hl (k := 5) rfl rfl (by decide) rfl (fun ls hl => ?_)
        refine lv_goto (tgt := 73) hx hb dX4_listMoves_132 (by decide) ?_
        exact hK73 T_0 v1 v2 v3 v4 (v5 + (nI 1)) _ _ _ hS (lv_sub hl [1, 2, 3, 4, 5, 0] rfl) hF
      · replace hF := ifn hF c_2
        refine lv_aload_n hx hb dX4_listMoves_90 rfl (lv_at hl 0 rfl) ?_
        refine lv_iload_n hx hb dX4_listMoves_91 rfl (lv_at hl 1 rfl) ?_
        refine lv_iload_n hx hb dX4_listMoves_92 rfl (lv_at hl 3 rfl) ?_
        refine lv_iload hx hb dX4_listMoves_93 (lv_at hl 5 rfl) ?_
        replace hF := cal1_e hF
        obtain ⟨x3, hc4, hF⟩ := hF
        refine kV_i (As := [.int v1, .int v3, .int v5]) (rest := []) (wr := []) (w2 := [(h_0, oX4 h_0_rules h_0_lies h_0_tops h_0_list T_0), (h_0_lies, eI cI 16 (T_0 1)), (h_0_tops, eI cI 10 (T_0 2)), (h_0_list, eI cI 160 (T_0 3)), (h_0_rules, oX1 r_0_rules)]) hCF hK (c_X4_isMove l D cI cJ h_0 h_0_lies h_0_tops h_0_list h_0_rules T_0 r_0_rules v1 v3 v5 x3 hc4) (cwV 3 hts (TBL_V mw_269 mw_270 mw_271 mw_17 mw_272) rfl rfl rfl pmX4_isMove ⟨Nat.le_of_ble_eq_true rfl, Nat.le_of_ble_eq_true rfl⟩) hS hA [0, 1, 2, 3, 4] [] rfl rfl rfl rfl (by decide) rfl rfl rfl hl.1 rfl (Nat.le_of_ble_eq_true rfl) ⟨Nat.zero_le _, Nat.zero_le _⟩ dX4_listMoves_95 rfl (fun H locs hS => ?_)
        refine lv_if_eq (tgt := 129) hx hb dX4_listMoves_98 (by decide) (fun c_5 => ?_) (fun c_5 => ?_)
        · replace hF := ifp hF c_5
          refine lv_iinc (v := v5 + (nI 1)) (lv' := [(5, .int (v5 + (nI 1))), (0, .ref h_0), (1, .int v1), (2, .int v2), (3, .int v3), (4, .int v4)]) hx hb dX4_listMoves_129 hl (k := 5) rfl rfl (by decide) rfl (fun ls hl => ?_)
          refine lv_goto (tgt := 73) hx hb dX4_listMoves_132 (by decide) ?_
          exact hK73 T_0 v1 v2 v3 v4 (v5 + (nI 1)) _ _ _ hS (lv_sub hl [1, 2, 3, 4, 5, 0] rfl) hF
        · replace hF := ifn hF c_5
          refine lv_aload_n hx hb dX4_listMoves_101 rfl (lv_at hl 0 rfl) ?_
          refine r_get hx hb hts inX4 hown hK hS 0 3 rfl rfl (by decide) q2 rfl dX4_listMoves_102 ?_
          refine lv_aload_n hx hb dX4_listMoves_105 rfl (lv_at hl 0 rfl) ?_
          refine r_get hx hb hts inX4 hown hK hS 0 4 rfl rfl (by decide) q0 rfl dX4_listMoves_106 ?_
          refine lv_iload_n hx hb dX4_listMoves_109 rfl (lv_at hl 1 rfl) ?_
          refine lv_iload_n hx hb dX4_listMoves_110 rfl (lv_at hl 3 rfl) ?_
          refine lv_iload hx hb dX4_listMoves_111 (lv_at hl 5 rfl) ?_
          replace hF := cal1_e hF
          obtain ⟨x6, hc7, hF⟩ := hF
          refine kN_i (As := [.int v1, .int v3, .int v5]) (rest := [.int (T_0 0 4), .ref h_0_list]) (wr := [(h_0, oX4 h_0_rules h_0_lies h_0_tops h_0_list T_0), (h_0_lies, eI cI 16 (T_0 1)), (h_0_tops, eI cI 10 (T_0 2)), (h_0_list, eI cI 160 (T_0 3)), (h_0_rules, oX1 r_0_rules)]) (w2 := [(h_0, oX4 h_0_rules h_0_lies h_0_tops h_0_list T_0), (h_0_lies, eI cI 16 (T_0 1)), (h_0_tops, eI cI 10 (T_0 2)), (h_0_list, eI cI 160 (T_0 3)), (h_0_rules, oX1 r_0_rules)]) hCF hK (c_X5_codeOf l D cI cJ v1 v3 v5 x6 hc7) (cwN 3 hK hts (TBL_C mw_304) rfl rfl rfl (host := RX5) (List.mem_of_getElem? (i := 13) rfl) (List.mem_cons_of_mem _ mw_2) (List.mem_cons_of_mem _ mw_303) pmX5_codeOf.2 ⟨Nat.le_of_ble_eq_true rfl, Nat.le_of_ble_eq_true rfl⟩) hS hA [] [0, 1, 2, 3, 4] rfl rfl rfl rfl (by decide) rfl hl.1 rfl (Nat.le_of_ble_eq_true rfl) ⟨Nat.zero_le _, Nat.zero_le _⟩ dX4_listMoves_113 rfl (fun H locs hS => ?_)
          replace hF := cal1_e hF
          obtain ⟨f8, hc9, hF⟩ := hF
          replace hF := bnd_e hF
          obtain ⟨T_0u10, eT_0u10, hF⟩ := hF
          refine kN_v (As := [.ref h_0_list, .int (T_0 0 4), .int x6]) (rest := []) (wr := [(h_0, oX4 h_0_rules h_0_lies h_0_tops h_0_list T_0), (h_0_lies, eI cI 16 (T_0 1)), (h_0_tops, eI cI 10 (T_0 2)), (h_0_rules, oX1 r_0_rules)]) (w2 := [(h_0, oX4 h_0_rules h_0_lies h_0_tops h_0_list T_0u10), (h_0_lies, eI cI 16 (T_0u10 1)), (h_0_tops, eI cI 10 (T_0u10 2)), (h_0_rules, oX1 r_0_rules), (h_0_list, eI cI 160 (T_0u10 3))]) hCF hK (c_X5_put l D cI cJ h_0_list 160 (T_0 3) (T_0 0 4) x6 f8 hc9) (cwN 3 hK hts (TBL_C mw_116) rfl rfl rfl (host := RX5) (List.mem_of_getElem? (i := 9) rfl) (List.mem_cons_of_mem _ mw_2) (List.mem_cons_of_mem _ mw_115) pmX5_put.2 ⟨Nat.le_of_ble_eq_true rfl, Nat.le_of_ble_eq_true rfl⟩) hS hA [3] [0, 1, 2, 4] rfl rfl rfl rfl (by decide) rfl hl.1 rfl (Nat.le_of_ble_eq_true rfl) ⟨Nat.zero_le _, Nat.zero_le _⟩ dX4_listMoves_116 (by rw [eT_0u10]; rfl) (fun H locs hS => ?_)
          refine lv_aload_n hx hb dX4_listMoves_119 rfl (lv_at hl 0 rfl) ?_
          refine lv_dup hx hb dX4_listMoves_120 rfl ?_
          refine r_get hx hb hts inX4 hown hK hS 0 4 rfl rfl (by decide) q0 rfl dX4_listMoves_121 ?_
          refine lv_iconst (v := (nI 1)) hx hb dX4_listMoves_124 (by decide) ?_
          refine lv_iadd hx hb dX4_listMoves_125 ?_
          replace hF := bnd_e hF
          obtain ⟨T_0u11, eT_0u11, hF⟩ := hF
          refine r_put (w2 := [(h_0, oX4 h_0_rules h_0_lies h_0_tops h_0_list T_0u11), (h_0_lies, eI cI 16 (T_0u11 1)), (h_0_tops, eI cI 10 (T_0u11 2)), (h_0_rules, oX1 r_0_rules), (h_0_list, eI cI 160 (T_0u11 3))]) hx hb hts inX4 tyX4 tyX4_ok nmX4 hown hK hS 0 4 rfl rfl (by decide) q0 rfl rfl rfl (Nat.le_of_ble_eq_true rfl) dX4_listMoves_126 (by rw [eT_0u11]; rfl) (fun H locs hS => ?_)
          refine lv_iinc (v := v5 + (nI 1)) (lv' := [(5, .int (v5 + (nI 1))), (0, .ref h_0), (1, .int v1), (2, .int v2), (3, .int v3), (4, .int v4)]) hx hb dX4_listMoves_129 hl (k := 5) rfl rfl (by decide) rfl (fun ls hl => ?_)
          refine lv_goto (tgt := 73) hx hb dX4_listMoves_132 (by decide) ?_
          exact hK73 T_0u11 v1 v2 v3 v4 (v5 + (nI 1)) _ _ _ (hS.sub [0, 1, 2, 4, 3] rfl rfl) (lv_sub hl [1, 2, 3, 4, 5, 0] rfl) hF
  have L73 : ∀ (K7 : (Nat → Nat → Int32) → Int32 → Option ((Nat → Nat → Int32))) (_ : ∀ (T_0 : Nat → Nat → Int32) (v1 : Int32) (H : Heap) (locs : List Loc) (ls : Array Slot), HS D A H0 [(h_0, oX4 h_0_rules h_0_lies h_0_tops h_0_list T_0), (h_0_lies, eI cI 16 (T_0 1)), (h_0_tops, eI cI 10 (T_0 2)), (h_0_list, eI cI 160 (T_0 3)), (h_0_rules, oX1 r_0_rules)] H locs → lv_has ls 6 [(0, .ref h_0), (1, .int v1)] → K7 T_0 v1 = some r_T_0 → W p l e ({ frames := 4, cells := 0, slots := 0, locals := 91 } : Room) s m args below meth c H locs 0 0 Q (F0 m 7 ls [])) (K50 : (Nat → Nat → Int32) → Int32 → Int32 → Int32 → Option ((Nat → Nat → Int32))) (_ : ∀ (T_0 : Nat → Nat → Int32) (v1 : Int32) (v2 : Int32) (v3 : Int32) (H : Heap) (locs : List Loc) (ls : Array Slot), HS D A H0 [(h_0, oX4 h_0_rules h_0_lies h_0_tops h_0_list T_0), (h_0_lies, eI cI 16 (T_0 1)), (h_0_tops, eI cI 10 (T_0 2)), (h_0_list, eI cI 160 (T_0 3)), (h_0_rules, oX1 r_0_rules)] H locs → lv_has ls 6 [(0, .ref h_0), (1, .int v1), (2, .int v2), (3, .int v3)] → K50 T_0 v1 v2 v3 = some r_T_0 → W p l e ({ frames := 4, cells := 0, slots := 0, locals := 91 } : Room) s m args below meth c H locs 0 0 Q (F0 m 50 ls [])) (n : Nat) (T_0 : Nat → Nat → Int32) (v1 : Int32) (v2 : Int32) (v3 : Int32) (v4 : Int32) (v5 : Int32) (H : Heap) (locs : List Loc) (ls : Array Slot), HS D A H0 [(h_0, oX4 h_0_rules h_0_lies h_0_tops h_0_list T_0), (h_0_lies, eI cI 16 (T_0 1)), (h_0_tops, eI cI 10 (T_0 2)), (h_0_list, eI cI 160 (T_0 3)), (h_0_rules, oX1 r_0_rules)] H locs → lv_has ls 6 [(0, .ref h_0), (1, .int v1), (2, .int v2), (3, .int v3), (4, .int v4), (5, .int v5)] → F_X4_listMoves_L73 r_0_rules K7 K50 n T_0 v1 v2 v3 v4 v5 = some r_T_0 → W p l e ({ frames := 4, cells := 0, slots := 0, locals := 91 } : Room) s m args below meth c H locs 0 0 Q (F0 m 73 ls []) := by
    intro K7 hK7 K50 hK50 n
    induction n with
    | zero => intro T_0 v1 v2 v3 v4 v5 H locs ls hS hl hF; exact nomatch (show (none : Option ((Nat → Nat → Int32))) = some _ from hF)
    | succ n ih => intro T_0 v1 v2 v3 v4 v5 H locs ls hS hl hF; exact S73 K7 hK7 K50 hK50 _ ih T_0 v1 v2 v3 v4 v5 H locs ls hS hl hF
  have S50 : ∀ (K7 : (Nat → Nat → Int32) → Int32 → Option ((Nat → Nat → Int32))) (_ : ∀ (T_0 : Nat → Nat → Int32) (v1 : Int32) (H : Heap) (locs : List Loc) (ls : Array Slot), HS D A H0 [(h_0, oX4 h_0_rules h_0_lies h_0_tops h_0_list T_0), (h_0_lies, eI cI 16 (T_0 1)), (h_0_tops, eI cI 10 (T_0 2)), (h_0_list, eI cI 160 (T_0 3)), (h_0_rules, oX1 r_0_rules)] H locs → lv_has ls 6 [(0, .ref h_0), (1, .int v1)] → K7 T_0 v1 = some r_T_0 → W p l e ({ frames := 4, cells := 0, slots := 0, locals := 91 } : Room) s m args below meth c H locs 0 0 Q (F0 m 7 ls [])) (K50 : (Nat → Nat → Int32) → Int32 → Int32 → Int32 → Option ((Nat → Nat → Int32))) (_ : ∀ (T_0 : Nat → Nat → Int32) (v1 : Int32) (v2 : Int32) (v3 : Int32) (H : Heap) (locs : List Loc) (ls : Array Slot), HS D A H0 [(h_0, oX4 h_0_rules h_0_lies h_0_tops h_0_list T_0), (h_0_lies, eI cI 16 (T_0 1)), (h_0_tops, eI cI 10 (T_0 2)), (h_0_list, eI cI 160 (T_0 3)), (h_0_rules, oX1 r_0_rules)] H locs → lv_has ls 6 [(0, .ref h_0), (1, .int v1), (2, .int v2), (3, .int v3)] → K50 T_0 v1 v2 v3 = some r_T_0 → W p l e ({ frames := 4, cells := 0, slots := 0, locals := 91 } : Room) s m args below meth c H locs 0 0 Q (F0 m 50 ls [])) (T_0 : Nat → Nat → Int32) (v1 : Int32) (v2 : Int32) (v3 : Int32) (H : Heap) (locs : List Loc) (ls : Array Slot), HS D A H0 [(h_0, oX4 h_0_rules h_0_lies h_0_tops h_0_list T_0), (h_0_lies, eI cI 16 (T_0 1)), (h_0_tops, eI cI 10 (T_0 2)), (h_0_list, eI cI 160 (T_0 3)), (h_0_rules, oX1 r_0_rules)] H locs → lv_has ls 6 [(0, .ref h_0), (1, .int v1), (2, .int v2), (3, .int v3)] → F_X4_listMoves_s50 r_0_rules K7 K50 T_0 v1 v2 v3 = some r_T_0 → W p l e ({ frames := 4, cells := 0, slots := 0, locals := 91 } : Room) s m args below meth c H locs 0 0 Q (F0 m 50 ls []) := by
    intro K7 hK7 K50 hK50 T_0 v1 v2 v3 H locs ls hS hl hF
    unfold F_X4_listMoves_s50 at hF
    refine lv_iload_n hx hb dX4_listMoves_50 rfl (lv_at hl 3 rfl) ?_
    refine lv_bipush (v := (nI 8)) hx hb dX4_listMoves_51 (by decide) ?_
    refine lv_icmp_gt (tgt := 141) hx hb dX4_listMoves_53 (by decide) (fun c_12 => ?_) (fun c_12 => ?_)
    · replace hF := ifp hF c_12
      refine lv_iinc (v := v1 + (nI 1)) (lv' := [(1, .int (v1 + (nI 1))), (0, .ref h_0), (2, .int v2), (3, .int v3)]) hx hb dX4_listMoves_141 hl (k := 1) rfl rfl (by decide) rfl (fun ls hl => ?_)
      refine lv_goto (tgt := 7) hx hb dX4_listMoves_144 (by decide) ?_
      exact hK7 T_0 (v1 + (nI 1)) _ _ _ hS (lv_sub hl [1, 0] rfl) hF
    · replace hF := ifn hF c_12
      refine lv_iload_n hx hb dX4_listMoves_56 rfl (lv_at hl 3 rfl) ?_
      replace hF := cal1_e hF
      obtain ⟨x13, hc14, hF⟩ := hF
      refine kN_i (As := [.int v3]) (rest := []) (wr := [(h_0, oX4 h_0_rules h_0_lies h_0_tops h_0_list T_0), (h_0_lies, eI cI 16 (T_0 1)), (h_0_tops, eI cI 10 (T_0 2)), (h_0_list, eI cI 160 (T_0 3)), (h_0_rules, oX1 r_0_rules)]) (w2 := [(h_0, oX4 h_0_rules h_0_lies h_0_tops h_0_list T_0), (h_0_lies, eI cI 16 (T_0 1)), (h_0_tops, eI cI 10 (T_0 2)), (h_0_list, eI cI 160 (T_0 3)), (h_0_rules, oX1 r_0_rules)]) hCF hK (c_X5_isColumn l D cI cJ v3 x13 hc14) (cwN 1 hK hts (TBL_C mw_244) rfl rfl rfl (host := RX5) (List.mem_of_getElem? (i := 12) rfl) (List.mem_cons_of_mem _ mw_2) (List.mem_cons_of_mem _ mw_243) pmX5_isColumn.2 ⟨Nat.le_of_ble_eq_true rfl, Nat.le_of_ble_eq_true rfl⟩) hS hA [] [0, 1, 2, 3, 4] rfl rfl rfl rfl (by decide) rfl hl.1 rfl (Nat.le_of_ble_eq_true rfl) ⟨Nat.zero_le _, Nat.zero_le _⟩ dX4_listMoves_57 rfl (fun H locs hS => ?_)
      refine lv_if_eq (tgt := 67) hx hb dX4_listMoves_60 (by decide) (fun c_15 => ?_) (fun c_15 => ?_)
      · replace hF := ifp hF c_15
        refine lv_iconst (v := (nI 1)) hx hb dX4_listMoves_67 (by decide) ?_
        refine lv_istore (lv' := [(4, .int (nI 1)), (0, .ref h_0), (1, .int v1), (2, .int v2), (3, .int v3)]) hx hb dX4_listMoves_68 hl (by decide) rfl (fun ls hl => ?_)
        refine lv_iconst (v := (nI 1)) hx hb dX4_listMoves_70 (by decide) ?_
        refine lv_istore (lv' := [(5, .int (nI 1)), (4, .int (nI 1)), (0, .ref h_0), (1, .int v1), (2, .int v2), (3, .int v3)]) hx hb dX4_listMoves_71 hl (by decide) rfl (fun ls hl => ?_)
        exact L73 K7 hK7 K50 hK50 FU T_0 v1 v2 v3 (nI 1) (nI 1) _ _ _ hS (lv_sub hl [2, 3, 4, 5, 1, 0] rfl) hF
      · replace hF := ifn hF c_15
        refine lv_iload_n hx hb dX4_listMoves_63 rfl (lv_at hl 2 rfl) ?_
        refine lv_goto (tgt := 68) hx hb dX4_listMoves_64 (by decide) ?_
        refine lv_istore (lv' := [(4, .int v2), (0, .ref h_0), (1, .int v1), (2, .int v2), (3, .int v3)]) hx hb dX4_listMoves_68 hl (by decide) rfl (fun ls hl => ?_)
        refine lv_iconst (v := (nI 1)) hx hb dX4_listMoves_70 (by decide) ?_
        refine lv_istore (lv' := [(5, .int (nI 1)), (4, .int v2), (0, .ref h_0), (1, .int v1), (2, .int v2), (3, .int v3)]) hx hb dX4_listMoves_71 hl (by decide) rfl (fun ls hl => ?_)
        exact L73 K7 hK7 K50 hK50 FU T_0 v1 v2 v3 v2 (nI 1) _ _ _ hS (lv_sub hl [2, 3, 4, 5, 1, 0] rfl) hF
  have L50 : ∀ (K7 : (Nat → Nat → Int32) → Int32 → Option ((Nat → Nat → Int32))) (_ : ∀ (T_0 : Nat → Nat → Int32) (v1 : Int32) (H : Heap) (locs : List Loc) (ls : Array Slot), HS D A H0 [(h_0, oX4 h_0_rules h_0_lies h_0_tops h_0_list T_0), (h_0_lies, eI cI 16 (T_0 1)), (h_0_tops, eI cI 10 (T_0 2)), (h_0_list, eI cI 160 (T_0 3)), (h_0_rules, oX1 r_0_rules)] H locs → lv_has ls 6 [(0, .ref h_0), (1, .int v1)] → K7 T_0 v1 = some r_T_0 → W p l e ({ frames := 4, cells := 0, slots := 0, locals := 91 } : Room) s m args below meth c H locs 0 0 Q (F0 m 7 ls [])) (n : Nat) (T_0 : Nat → Nat → Int32) (v1 : Int32) (v2 : Int32) (v3 : Int32) (H : Heap) (locs : List Loc) (ls : Array Slot), HS D A H0 [(h_0, oX4 h_0_rules h_0_lies h_0_tops h_0_list T_0), (h_0_lies, eI cI 16 (T_0 1)), (h_0_tops, eI cI 10 (T_0 2)), (h_0_list, eI cI 160 (T_0 3)), (h_0_rules, oX1 r_0_rules)] H locs → lv_has ls 6 [(0, .ref h_0), (1, .int v1), (2, .int v2), (3, .int v3)] → F_X4_listMoves_L50 r_0_rules K7 n T_0 v1 v2 v3 = some r_T_0 → W p l e ({ frames := 4, cells := 0, slots := 0, locals := 91 } : Room) s m args below meth c H locs 0 0 Q (F0 m 50 ls []) := by
    intro K7 hK7 n
    induction n with
    | zero => intro T_0 v1 v2 v3 H locs ls hS hl hF; exact nomatch (show (none : Option ((Nat → Nat → Int32))) = some _ from hF)
    | succ n ih => intro T_0 v1 v2 v3 H locs ls hS hl hF; exact S50 K7 hK7 _ ih T_0 v1 v2 v3 H locs ls hS hl hF
  have B31 : ∀ (K7 : (Nat → Nat → Int32) → Int32 → Option ((Nat → Nat → Int32))) (_ : ∀ (T_0 : Nat → Nat → Int32) (v1 : Int32) (H : Heap) (locs : List Loc) (ls : Array Slot), HS D A H0 [(h_0, oX4 h_0_rules h_0_lies h_0_tops h_0_list T_0), (h_0_lies, eI cI 16 (T_0 1)), (h_0_tops, eI cI 10 (T_0 2)), (h_0_list, eI cI 160 (T_0 3)), (h_0_rules, oX1 r_0_rules)] H locs → lv_has ls 6 [(0, .ref h_0), (1, .int v1)] → K7 T_0 v1 = some r_T_0 → W p l e ({ frames := 4, cells := 0, slots := 0, locals := 91 } : Room) s m args below meth c H locs 0 0 Q (F0 m 7 ls [])) (T_0 : Nat → Nat → Int32) (v1 : Int32) (H : Heap) (locs : List Loc) (ls : Array Slot), HS D A H0 [(h_0, oX4 h_0_rules h_0_lies h_0_tops h_0_list T_0), (h_0_lies, eI cI 16 (T_0 1)), (h_0_tops, eI cI 10 (T_0 2)), (h_0_list, eI cI 160 (T_0 3)), (h_0_rules, oX1 r_0_rules)] H locs → lv_has ls 6 [(0, .ref h_0), (1, .int v1)] → F_X4_listMoves_b31 r_0_rules K7 T_0 v1 = some r_T_0 → W p l e ({ frames := 4, cells := 0, slots := 0, locals := 91 } : Room) s m args below meth c H locs 0 0 Q (F0 m 31 ls []) := by
    intro K7 hK7 T_0 v1 H locs ls hS hl hF
    unfold F_X4_listMoves_b31 at hF
    refine lv_iload_n hx hb dX4_listMoves_31 rfl (lv_at hl 1 rfl) ?_
    replace hF := cal1_e hF
    obtain ⟨x16, hc17, hF⟩ := hF
    refine kN_i (As := [.int v1]) (rest := []) (wr := [(h_0, oX4 h_0_rules h_0_lies h_0_tops h_0_list T_0), (h_0_lies, eI cI 16 (T_0 1)), (h_0_tops, eI cI 10 (T_0 2)), (h_0_list, eI cI 160 (T_0 3)), (h_0_rules, oX1 r_0_rules)]) (w2 := [(h_0, oX4 h_0_rules h_0_lies h_0_tops h_0_list T_0), (h_0_lies, eI cI 16 (T_0 1)), (h_0_tops, eI cI 10 (T_0 2)), (h_0_list, eI cI 160 (T_0 3)), (h_0_rules, oX1 r_0_rules)]) hCF hK (c_X5_isColumn l D cI cJ v1 x16 hc17) (cwN 1 hK hts (TBL_C mw_244) rfl rfl rfl (host := RX5) (List.mem_of_getElem? (i := 12) rfl) (List.mem_cons_of_mem _ mw_2) (List.mem_cons_of_mem _ mw_243) pmX5_isColumn.2 ⟨Nat.le_of_ble_eq_true rfl, Nat.le_of_ble_eq_true rfl⟩) hS hA [] [0, 1, 2, 3, 4] rfl rfl rfl rfl (by decide) rfl hl.1 rfl (Nat.le_of_ble_eq_true rfl) ⟨Nat.zero_le _, Nat.zero_le _⟩ dX4_listMoves_32 rfl (fun H locs hS => ?_)
    refine lv_if_eq (tgt := 46) hx hb dX4_listMoves_35 (by decide) (fun c_18 => ?_) (fun c_18 => ?_)
    · replace hF := ifp hF c_18
      refine lv_iconst (v := (nI 1)) hx hb dX4_listMoves_46 (by decide) ?_
      refine lv_istore_n (lv' := [(2, .int (nI 1)), (0, .ref h_0), (1, .int v1)]) hx hb dX4_listMoves_47 rfl hl (by decide) rfl (fun ls hl => ?_)
      refine lv_iconst (v := (nI 0)) hx hb dX4_listMoves_48 (by decide) ?_
      refine lv_istore_n (lv' := [(3, .int (nI 0)), (2, .int (nI 1)), (0, .ref h_0), (1, .int v1)]) hx hb dX4_listMoves_49 rfl hl (by decide) rfl (fun ls hl => ?_)
      exact L50 K7 hK7 FU T_0 v1 (nI 1) (nI 0) _ _ _ hS (lv_sub hl [2, 3, 1, 0] rfl) hF
    · replace hF := ifn hF c_18
      refine lv_aload_n hx hb dX4_listMoves_38 rfl (lv_at hl 0 rfl) ?_
      refine lv_iload_n hx hb dX4_listMoves_39 rfl (lv_at hl 1 rfl) ?_
      replace hF := cal1_e hF
      obtain ⟨x19, hc20, hF⟩ := hF
      refine kV_i (As := [.int v1]) (rest := []) (wr := []) (w2 := [(h_0, oX4 h_0_rules h_0_lies h_0_tops h_0_list T_0), (h_0_lies, eI cI 16 (T_0 1)), (h_0_tops, eI cI 10 (T_0 2)), (h_0_list, eI cI 160 (T_0 3)), (h_0_rules, oX1 r_0_rules)]) hCF hK (c_X4_runOf l D cI cJ h_0 h_0_lies h_0_tops h_0_list h_0_rules T_0 r_0_rules v1 x19 hc20) (cwV 1 hts (TBL_V mw_245 mw_246 mw_247 mw_17 mw_248) rfl rfl rfl pmX4_runOf ⟨Nat.le_of_ble_eq_true rfl, Nat.le_of_ble_eq_true rfl⟩) hS hA [0, 1, 2, 3, 4] [] rfl rfl rfl rfl (by decide) rfl rfl rfl hl.1 rfl (Nat.le_of_ble_eq_true rfl) ⟨Nat.zero_le _, Nat.zero_le _⟩ dX4_listMoves_40 rfl (fun H locs hS => ?_)
      refine lv_goto (tgt := 47) hx hb dX4_listMoves_43 (by decide) ?_
      refine lv_istore_n (lv' := [(2, .int x19), (0, .ref h_0), (1, .int v1)]) hx hb dX4_listMoves_47 rfl hl (by decide) rfl (fun ls hl => ?_)
      refine lv_iconst (v := (nI 0)) hx hb dX4_listMoves_48 (by decide) ?_
      refine lv_istore_n (lv' := [(3, .int (nI 0)), (2, .int x19), (0, .ref h_0), (1, .int v1)]) hx hb dX4_listMoves_49 rfl hl (by decide) rfl (fun ls hl => ?_)
      exact L50 K7 hK7 FU T_0 v1 x19 (nI 0) _ _ _ hS (lv_sub hl [2, 3, 1, 0] rfl) hF
  have S7 : ∀ (K7 : (Nat → Nat → Int32) → Int32 → Option ((Nat → Nat → Int32))) (_ : ∀ (T_0 : Nat → Nat → Int32) (v1 : Int32) (H : Heap) (locs : List Loc) (ls : Array Slot), HS D A H0 [(h_0, oX4 h_0_rules h_0_lies h_0_tops h_0_list T_0), (h_0_lies, eI cI 16 (T_0 1)), (h_0_tops, eI cI 10 (T_0 2)), (h_0_list, eI cI 160 (T_0 3)), (h_0_rules, oX1 r_0_rules)] H locs → lv_has ls 6 [(0, .ref h_0), (1, .int v1)] → K7 T_0 v1 = some r_T_0 → W p l e ({ frames := 4, cells := 0, slots := 0, locals := 91 } : Room) s m args below meth c H locs 0 0 Q (F0 m 7 ls [])) (T_0 : Nat → Nat → Int32) (v1 : Int32) (H : Heap) (locs : List Loc) (ls : Array Slot), HS D A H0 [(h_0, oX4 h_0_rules h_0_lies h_0_tops h_0_list T_0), (h_0_lies, eI cI 16 (T_0 1)), (h_0_tops, eI cI 10 (T_0 2)), (h_0_list, eI cI 160 (T_0 3)), (h_0_rules, oX1 r_0_rules)] H locs → lv_has ls 6 [(0, .ref h_0), (1, .int v1)] → F_X4_listMoves_s7 r_0_rules K7 T_0 v1 = some r_T_0 → W p l e ({ frames := 4, cells := 0, slots := 0, locals := 91 } : Room) s m args below meth c H locs 0 0 Q (F0 m 7 ls []) := by
    intro K7 hK7 T_0 v1 H locs ls hS hl hF
    unfold F_X4_listMoves_s7 at hF
    refine lv_iload_n hx hb dX4_listMoves_7 rfl (lv_at hl 1 rfl) ?_
    refine lv_bipush (v := (nI 10)) hx hb dX4_listMoves_8 (by decide) ?_
    refine lv_icmp_ge (tgt := 147) hx hb dX4_listMoves_10 (by decide) (fun c_21 => ?_) (fun c_21 => ?_)
    · replace hF := ifp hF c_21
      have e9_0 := Option.some.inj hF
      subst e9_0
      exact kret _ _ _ _ hS dX4_listMoves_147
    · replace hF := ifn hF c_21
      refine lv_aload_n hx hb dX4_listMoves_13 rfl (lv_at hl 0 rfl) ?_
      refine lv_iload_n hx hb dX4_listMoves_14 rfl (lv_at hl 1 rfl) ?_
      replace hF := cal1_e hF
      obtain ⟨x22, hc23, hF⟩ := hF
      refine kV_i (As := [.int v1]) (rest := []) (wr := [(h_0_rules, oX1 r_0_rules)]) (w2 := [(h_0_rules, oX1 r_0_rules), (h_0, oX4 h_0_rules h_0_lies h_0_tops h_0_list T_0), (h_0_lies, eI cI 16 (T_0 1)), (h_0_tops, eI cI 10 (T_0 2)), (h_0_list, eI cI 160 (T_0 3))]) hCF hK (c_X4_topOf l D cI cJ h_0 h_0_lies h_0_tops h_0_list h_0_rules T_0 v1 x22 hc23) (cwV 1 hts (TBL_V mw_133 mw_134 mw_135 mw_17 mw_136) rfl rfl rfl pmX4_topOf ⟨Nat.le_of_ble_eq_true rfl, Nat.le_of_ble_eq_true rfl⟩) hS hA [0, 1, 2, 3] [4] rfl rfl rfl rfl (by decide) rfl rfl rfl hl.1 rfl (Nat.le_of_ble_eq_true rfl) ⟨Nat.zero_le _, Nat.zero_le _⟩ dX4_listMoves_15 rfl (fun H locs hS => ?_)
      refine lv_iconst (v := (-1)) hx hb dX4_listMoves_18 (by decide) ?_
      refine lv_icmp_ne (tgt := 31) hx hb dX4_listMoves_19 (by decide) (fun c_24 => ?_) (fun c_24 => ?_)
      · replace hF := ifn hF c_24
        exact B31 K7 hK7 T_0 v1 _ _ _ (hS.sub [1, 2, 3, 4, 0] rfl rfl) (lv_sub hl [0, 1] rfl) hF
      · replace hF := ifp hF c_24
        refine lv_iload_n hx hb dX4_listMoves_22 rfl (lv_at hl 1 rfl) ?_
        refine lv_bipush (v := (nI 9)) hx hb dX4_listMoves_23 (by decide) ?_
        refine lv_icmp_eq (tgt := 31) hx hb dX4_listMoves_25 (by decide) (fun c_25 => ?_) (fun c_25 => ?_)
        · replace hF := ifp hF c_25
          exact B31 K7 hK7 T_0 v1 _ _ _ (hS.sub [1, 2, 3, 4, 0] rfl rfl) (lv_sub hl [0, 1] rfl) hF
        · replace hF := ifn hF c_25
          refine lv_goto (tgt := 141) hx hb dX4_listMoves_28 (by decide) ?_
          refine lv_iinc (v := v1 + (nI 1)) (lv' := [(1, .int (v1 + (nI 1))), (0, .ref h_0)]) hx hb dX4_listMoves_141 hl (k := 1) rfl rfl (by decide) rfl (fun ls hl => ?_)
          refine lv_goto (tgt := 7) hx hb dX4_listMoves_144 (by decide) ?_
          exact hK7 T_0 (v1 + (nI 1)) _ _ _ (hS.sub [1, 2, 3, 4, 0] rfl rfl) (lv_sub hl [1, 0] rfl) hF
  have L7 : ∀  (n : Nat) (T_0 : Nat → Nat → Int32) (v1 : Int32) (H : Heap) (locs : List Loc) (ls : Array Slot), HS D A H0 [(h_0, oX4 h_0_rules h_0_lies h_0_tops h_0_list T_0), (h_0_lies, eI cI 16 (T_0 1)), (h_0_tops, eI cI 10 (T_0 2)), (h_0_list, eI cI 160 (T_0 3)), (h_0_rules, oX1 r_0_rules)] H locs → lv_has ls 6 [(0, .ref h_0), (1, .int v1)] → F_X4_listMoves_L7 r_0_rules  n T_0 v1 = some r_T_0 → W p l e ({ frames := 4, cells := 0, slots := 0, locals := 91 } : Room) s m args below meth c H locs 0 0 Q (F0 m 7 ls []) := by
    intro  n
    induction n with
    | zero => intro T_0 v1 H locs ls hS hl hF; exact nomatch (show (none : Option ((Nat → Nat → Int32))) = some _ from hF)
    | succ n ih => intro T_0 v1 H locs ls hS hl hF; exact S7  _ ih T_0 v1 H locs ls hS hl hF
  unfold F_X4_listMoves at hF
  refine lv_aload_n hx hb dX4_listMoves_0 rfl (lv_at hl 0 rfl) ?_
  refine lv_iconst (v := (nI 0)) hx hb dX4_listMoves_1 (by decide) ?_
  replace hF := bnd_e hF
  obtain ⟨T_0u26, eT_0u26, hF⟩ := hF
  refine r_put (w2 := [(h_0, oX4 h_0_rules h_0_lies h_0_tops h_0_list T_0u26), (h_0_lies, eI cI 16 (T_0u26 1)), (h_0_tops, eI cI 10 (T_0u26 2)), (h_0_list, eI cI 160 (T_0u26 3)), (h_0_rules, oX1 r_0_rules)]) hx hb hts inX4 tyX4 tyX4_ok nmX4 hown hK hS 0 4 rfl rfl (by decide) q0 rfl rfl rfl (Nat.le_of_ble_eq_true rfl) dX4_listMoves_2 (by rw [eT_0u26]; rfl) (fun H locs hS => ?_)
  refine lv_iconst (v := (nI 0)) hx hb dX4_listMoves_5 (by decide) ?_
  refine lv_istore_n (lv' := [(1, .int (nI 0)), (0, .ref h_0)]) hx hb dX4_listMoves_6 rfl hl (by decide) rfl (fun ls hl => ?_)
  exact L7 FU T_0u26 (nI 0) _ _ _ hS (lv_sub hl [1, 0] rfl) hF
set_option maxHeartbeats 4000000 in
set_option maxRecDepth 100000 in
theorem c_X4_copyFrom (l : Launch) (D : va_G) (cI cJ : ClassId) (h_0 h_0_lies h_0_tops h_0_list h_1 h_1_lies h_1_tops h_1_list g_0_rules h_1_rules : Nat) (T_1 : Nat → Nat → Int32) (T_0 : Nat → Nat → Int32) (r_T_0 : Nat → Nat → Int32) (hF : F_X4_copyFrom T_1 T_0 = some r_T_0) : CtV l D [(cI, .int), (cJ, .long)] yX4_copyFrom wtX4_copyFrom ({ frames := 1, cells := 0, slots := 0, locals := 40 } : Room) [.ref h_0, .ref h_1] [(h_0, oX4 g_0_rules h_0_lies h_0_tops h_0_list T_0), (h_0_lies, eI cI 16 (T_0 1)), (h_0_tops, eI cI 10 (T_0 2)), (h_0_list, eI cI 160 (T_0 3)), (h_1, oX4 h_1_rules h_1_lies h_1_tops h_1_list T_1), (h_1_lies, eI cI 16 (T_1 1)), (h_1_tops, eI cI 10 (T_1 2)), (h_1_list, eI cI 160 (T_1 3))] [(h_0, oX4 h_1_rules h_0_lies h_0_tops h_0_list r_T_0), (h_0_lies, eI cI 16 (r_T_0 1)), (h_0_tops, eI cI 10 (r_T_0 2)), (h_0_list, eI cI 160 (r_T_0 3)), (h_1, oX4 h_1_rules h_1_lies h_1_tops h_1_list T_1), (h_1_lies, eI cI 16 (T_1 1)), (h_1_tops, eI cI 10 (T_1 2)), (h_1_list, eI cI 160 (T_1 3))] := by
  refine CtV.of (cc := cX4_copyFrom) (maxL := 2) (by decide) rfl (Nat.le_of_ble_eq_true rfl) ?_
  intro p e s m args below meth c A H0 Q ls X hS hl kret
  have hCF := X.1
  obtain ⟨⟨hx, hb, hml, hown, hts⟩, hK, hA⟩ := X
  have hl : lv_has ls 2 [(0, .ref h_0), (1, .ref h_1)] := hl
  have q0 := hts (.fieldLink RX4 12 "Patiencery$Table" "rules" "LPatiencery$Rules;") (List.mem_cons_of_mem _ mw_51)
  have inX4 : ∀ w ∈ u_ws RX4 TX4 7, w ∈ wtX4_copyFrom := fun w h => List.mem_cons_of_mem _ (inlX4 w h)
  have q2 := hts (.fieldLink RX4 18 "Patiencery$Table" "lies" "[I") (List.mem_cons_of_mem _ mw_53)
  have q3 := hts (.methodLink RX4 38 arraycopyName) (List.mem_cons_of_mem _ mw_412)
  have q4 := hts (.native arraycopyName) (List.mem_cons_of_mem _ mw_413)
  have q5 := hts (.static arraycopyName) (List.mem_cons_of_mem _ mw_414)
  have q6 := hts (.initialized "java/lang/System") (List.mem_cons_of_mem _ mw_415)
  have q7 := hts (.fieldLink RX4 22 "Patiencery$Table" "tops" "[I") (List.mem_cons_of_mem _ mw_54)
  have q8 := hts (.fieldLink RX4 32 "Patiencery$Table" "hidden" "I") (List.mem_cons_of_mem _ mw_57)
  have q9 := hts (.fieldLink RX4 35 "Patiencery$Table" "turned" "I") (List.mem_cons_of_mem _ mw_58)
  unfold F_X4_copyFrom at hF
  refine lv_aload_n hx hb dX4_copyFrom_0 rfl (lv_at hl 0 rfl) ?_
  refine lv_aload_n hx hb dX4_copyFrom_1 rfl (lv_at hl 1 rfl) ?_
  refine r_get hx hb hts inX4 hown hK hS 4 0 rfl rfl (by decide) q0 rfl dX4_copyFrom_2 ?_
  refine r_put (w2 := [(h_0, oX4 h_1_rules h_0_lies h_0_tops h_0_list T_0), (h_0_lies, eI cI 16 (T_0 1)), (h_0_tops, eI cI 10 (T_0 2)), (h_0_list, eI cI 160 (T_0 3)), (h_1, oX4 h_1_rules h_1_lies h_1_tops h_1_list T_1), (h_1_lies, eI cI 16 (T_1 1)), (h_1_tops, eI cI 10 (T_1 2)), (h_1_list, eI cI 160 (T_1 3))]) hx hb hts inX4 tyX4 tyX4_ok nmX4 hown hK hS 0 0 rfl rfl (by decide) q0 rfl rfl rfl (Nat.le_of_ble_eq_true rfl) dX4_copyFrom_5 rfl (fun H locs hS => ?_)
  refine lv_aload_n hx hb dX4_copyFrom_8 rfl (lv_at hl 1 rfl) ?_
  refine r_get hx hb hts inX4 hown hK hS 4 1 rfl rfl (by decide) q2 rfl dX4_copyFrom_9 ?_
  refine lv_iconst (v := (nI 0)) hx hb dX4_copyFrom_12 (by decide) ?_
  refine lv_aload_n hx hb dX4_copyFrom_13 rfl (lv_at hl 0 rfl) ?_
  refine r_get hx hb hts inX4 hown hK hS 0 1 rfl rfl (by decide) q2 rfl dX4_copyFrom_14 ?_
  refine lv_iconst (v := (nI 0)) hx hb dX4_copyFrom_17 (by decide) ?_
  refine lv_bipush (v := (nI 16)) hx hb dX4_copyFrom_18 (by decide) ?_
  replace hF := bnd_e hF
  obtain ⟨T_0u1, eT_0u1, hF⟩ := hF
  refine r_copyi (w2 := [(h_0, oX4 h_1_rules h_0_lies h_0_tops h_0_list T_0u1), (h_0_lies, eI cI 16 (T_0u1 1)), (h_0_tops, eI cI 10 (T_0u1 2)), (h_0_list, eI cI 160 (T_0u1 3)), (h_1, oX4 h_1_rules h_1_lies h_1_tops h_1_list T_1), (h_1_lies, eI cI 16 (T_1 1)), (h_1_tops, eI cI 10 (T_1 2)), (h_1_list, eI cI 160 (T_1 3))]) hx hb (hml.trans hl.1.symm) hown q3 q4 q5 q6 hK hS 5 1 (n := (nI 16)) (k := 16) rfl rfl rfl (by decide) (by decide) (by decide) (by decide) (by decide) (by decide) dX4_copyFrom_20 (by rw [eT_0u1]; rfl) (fun H locs hS => ?_)
  refine lv_aload_n hx hb dX4_copyFrom_23 rfl (lv_at hl 1 rfl) ?_
  refine r_get hx hb hts inX4 hown hK hS 4 2 rfl rfl (by decide) q7 rfl dX4_copyFrom_24 ?_
  refine lv_iconst (v := (nI 0)) hx hb dX4_copyFrom_27 (by decide) ?_
  refine lv_aload_n hx hb dX4_copyFrom_28 rfl (lv_at hl 0 rfl) ?_
  refine r_get hx hb hts inX4 hown hK hS 0 2 rfl rfl (by decide) q7 rfl dX4_copyFrom_29 ?_
  refine lv_iconst (v := (nI 0)) hx hb dX4_copyFrom_32 (by decide) ?_
  refine lv_bipush (v := (nI 10)) hx hb dX4_copyFrom_33 (by decide) ?_
  replace hF := bnd_e hF
  obtain ⟨T_0u2, eT_0u2, hF⟩ := hF
  refine r_copyi (w2 := [(h_0, oX4 h_1_rules h_0_lies h_0_tops h_0_list T_0u2), (h_0_lies, eI cI 16 (T_0u2 1)), (h_0_tops, eI cI 10 (T_0u2 2)), (h_0_list, eI cI 160 (T_0u2 3)), (h_1, oX4 h_1_rules h_1_lies h_1_tops h_1_list T_1), (h_1_lies, eI cI 16 (T_1 1)), (h_1_tops, eI cI 10 (T_1 2)), (h_1_list, eI cI 160 (T_1 3))]) hx hb (hml.trans hl.1.symm) hown q3 q4 q5 q6 hK hS 6 2 (n := (nI 10)) (k := 10) rfl rfl rfl (by decide) (by decide) (by decide) (by decide) (by decide) (by decide) dX4_copyFrom_35 (by rw [eT_0u2]; rfl) (fun H locs hS => ?_)
  refine lv_aload_n hx hb dX4_copyFrom_38 rfl (lv_at hl 0 rfl) ?_
  refine lv_aload_n hx hb dX4_copyFrom_39 rfl (lv_at hl 1 rfl) ?_
  refine r_get hx hb hts inX4 hown hK hS 4 5 rfl rfl (by decide) q8 rfl dX4_copyFrom_40 ?_
  replace hF := bnd_e hF
  obtain ⟨T_0u3, eT_0u3, hF⟩ := hF
  refine r_put (w2 := [(h_0, oX4 h_1_rules h_0_lies h_0_tops h_0_list T_0u3), (h_0_lies, eI cI 16 (T_0u3 1)), (h_0_tops, eI cI 10 (T_0u3 2)), (h_0_list, eI cI 160 (T_0u3 3)), (h_1, oX4 h_1_rules h_1_lies h_1_tops h_1_list T_1), (h_1_lies, eI cI 16 (T_1 1)), (h_1_tops, eI cI 10 (T_1 2)), (h_1_list, eI cI 160 (T_1 3))]) hx hb hts inX4 tyX4 tyX4_ok nmX4 hown hK hS 0 5 rfl rfl (by decide) q8 rfl rfl rfl (Nat.le_of_ble_eq_true rfl) dX4_copyFrom_43 (by rw [eT_0u3]; rfl) (fun H locs hS => ?_)
  refine lv_aload_n hx hb dX4_copyFrom_46 rfl (lv_at hl 0 rfl) ?_
  refine lv_aload_n hx hb dX4_copyFrom_47 rfl (lv_at hl 1 rfl) ?_
  refine r_get hx hb hts inX4 hown hK hS 4 6 rfl rfl (by decide) q9 rfl dX4_copyFrom_48 ?_
  replace hF := bnd_e hF
  obtain ⟨T_0u4, eT_0u4, hF⟩ := hF
  refine r_put (w2 := [(h_0, oX4 h_1_rules h_0_lies h_0_tops h_0_list T_0u4), (h_0_lies, eI cI 16 (T_0u4 1)), (h_0_tops, eI cI 10 (T_0u4 2)), (h_0_list, eI cI 160 (T_0u4 3)), (h_1, oX4 h_1_rules h_1_lies h_1_tops h_1_list T_1), (h_1_lies, eI cI 16 (T_1 1)), (h_1_tops, eI cI 10 (T_1 2)), (h_1_list, eI cI 160 (T_1 3))]) hx hb hts inX4 tyX4 tyX4_ok nmX4 hown hK hS 0 6 rfl rfl (by decide) q9 rfl rfl rfl (Nat.le_of_ble_eq_true rfl) dX4_copyFrom_51 (by rw [eT_0u4]; rfl) (fun H locs hS => ?_)
  have e9_0 := Option.some.inj hF
  subst e9_0
  exact kret _ _ _ _ hS dX4_copyFrom_54
set_option maxHeartbeats 4000000 in
set_option maxRecDepth 100000 in
theorem c_X4_cardsUp (l : Launch) (D : va_G) (cI cJ : ClassId) (h_0 h_0_lies h_0_tops h_0_list h_0_rules : Nat) (T_0 : Nat → Nat → Int32) (r_0_rules : Nat → Int32) (rv : Int32) (hF : F_X4_cardsUp T_0 r_0_rules = some rv) : CtI l D [(cI, .int), (cJ, .long)] yX4_cardsUp wtX4_cardsUp ({ frames := 2, cells := 0, slots := 0, locals := 42 } : Room) [.ref h_0] [(h_0, oX4 h_0_rules h_0_lies h_0_tops h_0_list T_0), (h_0_lies, eI cI 16 (T_0 1)), (h_0_tops, eI cI 10 (T_0 2)), (h_0_list, eI cI 160 (T_0 3)), (h_0_rules, oX1 r_0_rules)] [(h_0, oX4 h_0_rules h_0_lies h_0_tops h_0_list T_0), (h_0_lies, eI cI 16 (T_0 1)), (h_0_tops, eI cI 10 (T_0 2)), (h_0_list, eI cI 160 (T_0 3)), (h_0_rules, oX1 r_0_rules)] rv := by
  refine CtI.of (cc := cX4_cardsUp) (maxL := 3) (by decide) rfl (Nat.le_of_ble_eq_true rfl) ?_
  intro p e s m args below meth c A H0 Q ls X hS hl kret
  have hCF := X.1
  obtain ⟨⟨hx, hb, hml, hown, hts⟩, hK, hA⟩ := X
  have hl : lv_has ls 3 [(0, .ref h_0)] := hl
  have q0 := hts (.fieldLink RX4 12 "Patiencery$Table" "rules" "LPatiencery$Rules;") (List.mem_cons_of_mem _ mw_51)
  have inX4 : ∀ w ∈ u_ws RX4 TX4 7, w ∈ wtX4_cardsUp := fun w h => List.mem_cons_of_mem _ (inlX4 w h)
  have S4 : ∀ (K4 : Int32 → Int32 → Option (Int32)) (_ : ∀ (v1 : Int32) (v2 : Int32) (H : Heap) (locs : List Loc) (ls : Array Slot), HS D A H0 [(h_0, oX4 h_0_rules h_0_lies h_0_tops h_0_list T_0), (h_0_lies, eI cI 16 (T_0 1)), (h_0_tops, eI cI 10 (T_0 2)), (h_0_list, eI cI 160 (T_0 3)), (h_0_rules, oX1 r_0_rules)] H locs → lv_has ls 3 [(0, .ref h_0), (1, .int v1), (2, .int v2)] → K4 v1 v2 = some rv → W p l e ({ frames := 2, cells := 0, slots := 0, locals := 42 } : Room) s m args below meth c H locs 0 0 Q (F0 m 4 ls [])) (v1 : Int32) (v2 : Int32) (H : Heap) (locs : List Loc) (ls : Array Slot), HS D A H0 [(h_0, oX4 h_0_rules h_0_lies h_0_tops h_0_list T_0), (h_0_lies, eI cI 16 (T_0 1)), (h_0_tops, eI cI 10 (T_0 2)), (h_0_list, eI cI 160 (T_0 3)), (h_0_rules, oX1 r_0_rules)] H locs → lv_has ls 3 [(0, .ref h_0), (1, .int v1), (2, .int v2)] → F_X4_cardsUp_s4 T_0 r_0_rules K4 v1 v2 = some rv → W p l e ({ frames := 2, cells := 0, slots := 0, locals := 42 } : Room) s m args below meth c H locs 0 0 Q (F0 m 4 ls []) := by
    intro K4 hK4 v1 v2 H locs ls hS hl hF
    unfold F_X4_cardsUp_s4 at hF
    refine lv_iload_n hx hb dX4_cardsUp_4 rfl (lv_at hl 2 rfl) ?_
    refine lv_aload_n hx hb dX4_cardsUp_5 rfl (lv_at hl 0 rfl) ?_
    refine r_get hx hb hts inX4 hown hK hS 0 0 rfl rfl (by decide) q0 rfl dX4_cardsUp_6 ?_
    replace hF := cal1_e hF
    obtain ⟨x1, hc2, hF⟩ := hF
    refine kV_i (As := []) (rest := [.int v2]) (wr := [(h_0, oX4 h_0_rules h_0_lies h_0_tops h_0_list T_0), (h_0_lies, eI cI 16 (T_0 1)), (h_0_tops, eI cI 10 (T_0 2)), (h_0_list, eI cI 160 (T_0 3))]) (w2 := [(h_0, oX4 h_0_rules h_0_lies h_0_tops h_0_list T_0), (h_0_lies, eI cI 16 (T_0 1)), (h_0_tops, eI cI 10 (T_0 2)), (h_0_list, eI cI 160 (T_0 3)), (h_0_rules, oX1 r_0_rules)]) hCF hK (c_X1_cards l D cI cJ h_0_rules r_0_rules x1 hc2) (cwV 0 hts (TBL_V mw_132 mw_94 mw_95 mw_12 mw_96) rfl rfl rfl pmX1_cards ⟨Nat.le_of_ble_eq_true rfl, Nat.le_of_ble_eq_true rfl⟩) hS hA [4] [0, 1, 2, 3] rfl rfl rfl rfl (by decide) rfl rfl rfl hl.1 rfl (Nat.le_of_ble_eq_true rfl) ⟨Nat.zero_le _, Nat.zero_le _⟩ dX4_cardsUp_9 rfl (fun H locs hS => ?_)
    refine lv_icmp_ge (tgt := 32) hx hb dX4_cardsUp_12 (by decide) (fun c_3 => ?_) (fun c_3 => ?_)
    · replace hF := ifp hF c_3
      refine lv_iload_n hx hb dX4_cardsUp_32 rfl (lv_at hl 1 rfl) ?_
      have e9_0 := Option.some.inj hF
      subst e9_0
      exact kret _ _ _ _ hS dX4_cardsUp_33
    · replace hF := ifn hF c_3
      refine lv_aload_n hx hb dX4_cardsUp_15 rfl (lv_at hl 0 rfl) ?_
      refine lv_iload_n hx hb dX4_cardsUp_16 rfl (lv_at hl 2 rfl) ?_
      replace hF := cal1_e hF
      obtain ⟨x4, hc5, hF⟩ := hF
      refine kV_i (As := [.int v2]) (rest := []) (wr := [(h_0_rules, oX1 r_0_rules)]) (w2 := [(h_0_rules, oX1 r_0_rules), (h_0, oX4 h_0_rules h_0_lies h_0_tops h_0_list T_0), (h_0_lies, eI cI 16 (T_0 1)), (h_0_tops, eI cI 10 (T_0 2)), (h_0_list, eI cI 160 (T_0 3))]) hCF hK (c_X4_isUp l D cI cJ h_0 h_0_lies h_0_tops h_0_list h_0_rules T_0 v2 x4 hc5) (cwV 1 hts (TBL_V mw_213 mw_214 mw_215 mw_17 mw_216) rfl rfl rfl pmX4_isUp ⟨Nat.le_of_ble_eq_true rfl, Nat.le_of_ble_eq_true rfl⟩) hS hA [0, 1, 2, 3] [4] rfl rfl rfl rfl (by decide) rfl rfl rfl hl.1 rfl (Nat.le_of_ble_eq_true rfl) ⟨Nat.zero_le _, Nat.zero_le _⟩ dX4_cardsUp_17 rfl (fun H locs hS => ?_)
      refine lv_if_eq (tgt := 26) hx hb dX4_cardsUp_20 (by decide) (fun c_6 => ?_) (fun c_6 => ?_)
      · replace hF := ifp hF c_6
        refine lv_iinc (v := v2 + (nI 1)) (lv' := [(2, .int (v2 + (nI 1))), (0, .ref h_0), (1, .int v1)]) hx hb dX4_cardsUp_26 hl (k := 2) rfl rfl (by decide) rfl (fun ls hl => ?_)
        refine lv_goto (tgt := 4) hx hb dX4_cardsUp_29 (by decide) ?_
        exact hK4 v1 (v2 + (nI 1)) _ _ _ (hS.sub [1, 2, 3, 4, 0] rfl rfl) (lv_sub hl [1, 2, 0] rfl) hF
      · replace hF := ifn hF c_6
        refine lv_iinc (v := v1 + (nI 1)) (lv' := [(1, .int (v1 + (nI 1))), (0, .ref h_0), (2, .int v2)]) hx hb dX4_cardsUp_23 hl (k := 1) rfl rfl (by decide) rfl (fun ls hl => ?_)
        refine lv_iinc (v := v2 + (nI 1)) (lv' := [(2, .int (v2 + (nI 1))), (1, .int (v1 + (nI 1))), (0, .ref h_0)]) hx hb dX4_cardsUp_26 hl (k := 2) rfl rfl (by decide) rfl (fun ls hl => ?_)
        refine lv_goto (tgt := 4) hx hb dX4_cardsUp_29 (by decide) ?_
        exact hK4 (v1 + (nI 1)) (v2 + (nI 1)) _ _ _ (hS.sub [1, 2, 3, 4, 0] rfl rfl) (lv_sub hl [2, 1, 0] rfl) hF
  have L4 : ∀  (n : Nat) (v1 : Int32) (v2 : Int32) (H : Heap) (locs : List Loc) (ls : Array Slot), HS D A H0 [(h_0, oX4 h_0_rules h_0_lies h_0_tops h_0_list T_0), (h_0_lies, eI cI 16 (T_0 1)), (h_0_tops, eI cI 10 (T_0 2)), (h_0_list, eI cI 160 (T_0 3)), (h_0_rules, oX1 r_0_rules)] H locs → lv_has ls 3 [(0, .ref h_0), (1, .int v1), (2, .int v2)] → F_X4_cardsUp_L4 T_0 r_0_rules  n v1 v2 = some rv → W p l e ({ frames := 2, cells := 0, slots := 0, locals := 42 } : Room) s m args below meth c H locs 0 0 Q (F0 m 4 ls []) := by
    intro  n
    induction n with
    | zero => intro v1 v2 H locs ls hS hl hF; exact nomatch (show (none : Option (Int32)) = some _ from hF)
    | succ n ih => intro v1 v2 H locs ls hS hl hF; exact S4  _ ih v1 v2 H locs ls hS hl hF
  unfold F_X4_cardsUp at hF
  refine lv_iconst (v := (nI 0)) hx hb dX4_cardsUp_0 (by decide) ?_
  refine lv_istore_n (lv' := [(1, .int (nI 0)), (0, .ref h_0)]) hx hb dX4_cardsUp_1 rfl hl (by decide) rfl (fun ls hl => ?_)
  refine lv_iconst (v := (nI 0)) hx hb dX4_cardsUp_2 (by decide) ?_
  refine lv_istore_n (lv' := [(2, .int (nI 0)), (1, .int (nI 0)), (0, .ref h_0)]) hx hb dX4_cardsUp_3 rfl hl (by decide) rfl (fun ls hl => ?_)
  exact L4 FU (nI 0) (nI 0) _ _ _ hS (lv_sub hl [2, 1, 0] rfl) hF
set_option maxHeartbeats 4000000 in
set_option maxRecDepth 100000 in
theorem c_X4_isWon (l : Launch) (D : va_G) (cI cJ : ClassId) (h_0 h_0_lies h_0_tops h_0_list h_0_rules : Nat) (T_0 : Nat → Nat → Int32) (r_0_rules : Nat → Int32) (rv : Int32) (hF : F_X4_isWon T_0 r_0_rules = some rv) : CtI l D [(cI, .int), (cJ, .long)] yX4_isWon wtX4_isWon ({ frames := 3, cells := 0, slots := 0, locals := 64 } : Room) [.ref h_0] [(h_0, oX4 h_0_rules h_0_lies h_0_tops h_0_list T_0), (h_0_lies, eI cI 16 (T_0 1)), (h_0_tops, eI cI 10 (T_0 2)), (h_0_list, eI cI 160 (T_0 3)), (h_0_rules, oX1 r_0_rules)] [(h_0, oX4 h_0_rules h_0_lies h_0_tops h_0_list T_0), (h_0_lies, eI cI 16 (T_0 1)), (h_0_tops, eI cI 10 (T_0 2)), (h_0_list, eI cI 160 (T_0 3)), (h_0_rules, oX1 r_0_rules)] rv := by
  refine CtZ.of (cc := cX4_isWon) (maxL := 1) (by decide) rfl (Nat.le_of_ble_eq_true rfl) ?_
  intro p e s m args below meth c A H0 Q ls X hS hl kret
  have hCF := X.1
  obtain ⟨⟨hx, hb, hml, hown, hts⟩, hK, hA⟩ := X
  have hl : lv_has ls 1 [(0, .ref h_0)] := hl
  have q0 := hts (.fieldLink RX4 12 "Patiencery$Table" "rules" "LPatiencery$Rules;") (List.mem_cons_of_mem _ mw_51)
  have inX4 : ∀ w ∈ u_ws RX4 TX4 7, w ∈ wtX4_isWon := fun w h => List.mem_cons_of_mem _ (inlX4 w h)
  unfold F_X4_isWon at hF
  refine lv_aload_n hx hb dX4_isWon_0 rfl (lv_at hl 0 rfl) ?_
  replace hF := cal1_e hF
  obtain ⟨x1, hc2, hF⟩ := hF
  refine kV_i (As := []) (rest := []) (wr := []) (w2 := [(h_0, oX4 h_0_rules h_0_lies h_0_tops h_0_list T_0), (h_0_lies, eI cI 16 (T_0 1)), (h_0_tops, eI cI 10 (T_0 2)), (h_0_list, eI cI 160 (T_0 3)), (h_0_rules, oX1 r_0_rules)]) hCF hK (c_X4_cardsUp l D cI cJ h_0 h_0_lies h_0_tops h_0_list h_0_rules T_0 r_0_rules x1 hc2) (cwV 0 hts (TBL_V mw_438 mw_210 mw_211 mw_17 mw_212) rfl rfl rfl pmX4_cardsUp ⟨Nat.le_of_ble_eq_true rfl, Nat.le_of_ble_eq_true rfl⟩) hS hA [0, 1, 2, 3, 4] [] rfl rfl rfl rfl (by decide) rfl rfl rfl hl.1 rfl (Nat.le_of_ble_eq_true rfl) ⟨Nat.zero_le _, Nat.zero_le _⟩ dX4_isWon_1 rfl (fun H locs hS => ?_)
  refine lv_aload_n hx hb dX4_isWon_4 rfl (lv_at hl 0 rfl) ?_
  refine r_get hx hb hts inX4 hown hK hS 0 0 rfl rfl (by decide) q0 rfl dX4_isWon_5 ?_
  replace hF := cal1_e hF
  obtain ⟨x3, hc4, hF⟩ := hF
  refine kV_i (As := []) (rest := [.int x1]) (wr := [(h_0, oX4 h_0_rules h_0_lies h_0_tops h_0_list T_0), (h_0_lies, eI cI 16 (T_0 1)), (h_0_tops, eI cI 10 (T_0 2)), (h_0_list, eI cI 160 (T_0 3))]) (w2 := [(h_0, oX4 h_0_rules h_0_lies h_0_tops h_0_list T_0), (h_0_lies, eI cI 16 (T_0 1)), (h_0_tops, eI cI 10 (T_0 2)), (h_0_list, eI cI 160 (T_0 3)), (h_0_rules, oX1 r_0_rules)]) hCF hK (c_X1_cards l D cI cJ h_0_rules r_0_rules x3 hc4) (cwV 0 hts (TBL_V mw_132 mw_94 mw_95 mw_12 mw_96) rfl rfl rfl pmX1_cards ⟨Nat.le_of_ble_eq_true rfl, Nat.le_of_ble_eq_true rfl⟩) hS hA [4] [0, 1, 2, 3] rfl rfl rfl rfl (by decide) rfl rfl rfl hl.1 rfl (Nat.le_of_ble_eq_true rfl) ⟨Nat.zero_le _, Nat.zero_le _⟩ dX4_isWon_8 rfl (fun H locs hS => ?_)
  refine lv_icmp_ne (tgt := 18) hx hb dX4_isWon_11 (by decide) (fun c_5 => ?_) (fun c_5 => ?_)
  · replace hF := ifn hF c_5
    refine lv_iconst (v := (nI 0)) hx hb dX4_isWon_18 (by decide) ?_
    replace hF := zb_e hF
    obtain ⟨h01_6, hF⟩ := hF
    have e9_0 := Option.some.inj hF
    subst e9_0
    exact kret _ _ _ _ h01_6 hS dX4_isWon_19
  · replace hF := ifp hF c_5
    refine lv_iconst (v := (nI 1)) hx hb dX4_isWon_14 (by decide) ?_
    refine lv_goto (tgt := 19) hx hb dX4_isWon_15 (by decide) ?_
    replace hF := zb_e hF
    obtain ⟨h01_7, hF⟩ := hF
    have e9_0 := Option.some.inj hF
    subst e9_0
    exact kret _ _ _ _ h01_7 hS dX4_isWon_19
set_option maxHeartbeats 4000000 in
set_option maxRecDepth 100000 in
theorem c_X4_unpacked (l : Launch) (D : va_G) (cI cJ : ClassId) (h_0 h_0_lies h_0_tops h_0_list g_0_rules : Nat) (T_0 : Nat → Nat → Int32) (v1 : Int64) (v3 : Int32) (v4 : Int32) (rv : Int32) (r_T_0 : Nat → Nat → Int32) (hF : F_X4_unpacked T_0 v1 v3 v4 = some (rv, r_T_0)) : CtI l D [(cI, .int), (cJ, .long)] yX4_unpacked wtX4_unpacked ({ frames := 1, cells := 0, slots := 0, locals := 21 } : Room) [.ref h_0, .long v1, .int v3, .int v4] [(h_0, oX4 g_0_rules h_0_lies h_0_tops h_0_list T_0), (h_0_lies, eI cI 16 (T_0 1)), (h_0_tops, eI cI 10 (T_0 2)), (h_0_list, eI cI 160 (T_0 3))] [(h_0, oX4 g_0_rules h_0_lies h_0_tops h_0_list r_T_0), (h_0_lies, eI cI 16 (r_T_0 1)), (h_0_tops, eI cI 10 (r_T_0 2)), (h_0_list, eI cI 160 (r_T_0 3))] rv := by
  refine CtI.of (cc := cX4_unpacked) (maxL := 8) (by decide) rfl (Nat.le_of_ble_eq_true rfl) ?_
  intro p e s m args below meth c A H0 Q ls X hS hl kret
  have hCF := X.1
  obtain ⟨⟨hx, hb, hml, hown, hts⟩, hK, hA⟩ := X
  have hl : lv_has ls 8 [(0, .ref h_0), (1, .long v1), (3, .int v3), (4, .int v4)] := hl
  have q0 := hts (.fieldLink RX4 18 "Patiencery$Table" "lies" "[I") (List.mem_cons_of_mem _ mw_53)
  have inX4 : ∀ w ∈ u_ws RX4 TX4 7, w ∈ wtX4_unpacked := fun w h => List.mem_cons_of_mem _ (inlX4 w h)
  have q2 := hts (.constantLong RX4 90 (31)) (List.mem_cons_of_mem _ mw_379)
  have q3 := hts (.methodLink RX4 87 Lib.Math.min.name) (List.mem_cons_of_mem _ mw_294)
  have q4 := hts (.static Lib.Math.min.name) (List.mem_cons_of_mem _ mw_102)
  have q5 := hts (.initialized "java/lang/Math") (List.mem_cons_of_mem _ mw_65)
  have q6 := hts (.code Lib.Math.min.name Lib.Math.min.code 2 (some .int)) (List.mem_cons_of_mem _ mw_103)
  have S17 : ∀ (K17 : (Nat → Nat → Int32) → Int32 → Int64 → Int32 → Option (Int32 × (Nat → Nat → Int32))) (_ : ∀ (T_0 : Nat → Nat → Int32) (v3 : Int32) (v5 : Int64) (v7 : Int32) (H : Heap) (locs : List Loc) (ls : Array Slot), HS D A H0 [(h_0, oX4 g_0_rules h_0_lies h_0_tops h_0_list T_0), (h_0_lies, eI cI 16 (T_0 1)), (h_0_tops, eI cI 10 (T_0 2)), (h_0_list, eI cI 160 (T_0 3))] H locs → lv_has ls 8 [(0, .ref h_0), (3, .int v3), (5, .long v5), (7, .int v7)] → K17 T_0 v3 v5 v7 = some (rv, r_T_0) → W p l e ({ frames := 1, cells := 0, slots := 0, locals := 21 } : Room) s m args below meth c H locs 0 0 Q (F0 m 17 ls [])) (T_0 : Nat → Nat → Int32) (v3 : Int32) (v5 : Int64) (v7 : Int32) (H : Heap) (locs : List Loc) (ls : Array Slot), HS D A H0 [(h_0, oX4 g_0_rules h_0_lies h_0_tops h_0_list T_0), (h_0_lies, eI cI 16 (T_0 1)), (h_0_tops, eI cI 10 (T_0 2)), (h_0_list, eI cI 160 (T_0 3))] H locs → lv_has ls 8 [(0, .ref h_0), (3, .int v3), (5, .long v5), (7, .int v7)] → F_X4_unpacked_s17  K17 T_0 v3 v5 v7 = some (rv, r_T_0) → W p l e ({ frames := 1, cells := 0, slots := 0, locals := 21 } : Room) s m args below meth c H locs 0 0 Q (F0 m 17 ls []) := by
    intro K17 hK17 T_0 v3 v5 v7 H locs ls hS hl hF
    unfold F_X4_unpacked_s17 at hF
    refine lv_iload hx hb dX4_unpacked_17 (lv_at hl 3 rfl) ?_
    refine lv_iload_n hx hb dX4_unpacked_19 rfl (lv_at hl 1 rfl) ?_
    refine lv_icmp_lt (tgt := 54) hx hb dX4_unpacked_20 (by decide) (fun c_1 => ?_) (fun c_1 => ?_)
    · replace hF := ifp hF c_1
      refine lv_lload hx hb dX4_unpacked_54 (lv_at hl 2 rfl) ?_
      refine lv_l2i hx hb dX4_unpacked_56 rfl ?_
      have e9_0 := Option.some.inj hF
      obtain ⟨f9_0, e9_1⟩ := Prod.mk.inj e9_0
      subst f9_0
      subst e9_1
      exact kret _ _ _ _ hS dX4_unpacked_57
    · replace hF := ifn hF c_1
      refine lv_iload hx hb dX4_unpacked_23 (lv_at hl 3 rfl) ?_
      refine lv_if_lt (tgt := 54) hx hb dX4_unpacked_25 (by decide) (fun c_2 => ?_) (fun c_2 => ?_)
      · replace hF := ifp hF c_2
        refine lv_lload hx hb dX4_unpacked_54 (lv_at hl 2 rfl) ?_
        refine lv_l2i hx hb dX4_unpacked_56 rfl ?_
        have e9_0 := Option.some.inj hF
        obtain ⟨f9_0, e9_1⟩ := Prod.mk.inj e9_0
        subst f9_0
        subst e9_1
        exact kret _ _ _ _ hS dX4_unpacked_57
      · replace hF := ifn hF c_2
        refine lv_aload_n hx hb dX4_unpacked_28 rfl (lv_at hl 0 rfl) ?_
        refine r_get hx hb hts inX4 hown hK hS 0 1 rfl rfl (by decide) q0 rfl dX4_unpacked_29 ?_
        refine lv_iload hx hb dX4_unpacked_32 (lv_at hl 3 rfl) ?_
        refine lv_lload hx hb dX4_unpacked_34 (lv_at hl 2 rfl) ?_
        refine lv_ldc2 (v := (lN 31)) hx hb hown q2 dX4_unpacked_36 ?_
        refine lv_land hx hb dX4_unpacked_39 ?_
        refine lv_l2i hx hb dX4_unpacked_40 rfl ?_
        replace hF := wrA_e hF
        obtain ⟨hi4, T_0u3, eT_0u3, hF⟩ := hF
        refine r_iast (w2 := [(h_0, oX4 g_0_rules h_0_lies h_0_tops h_0_list T_0u3), (h_0_lies, eI cI 16 (T_0u3 1)), (h_0_tops, eI cI 10 (T_0u3 2)), (h_0_list, eI cI 160 (T_0u3 3))]) hx hb hK hS 1 rfl rfl hi4 dX4_unpacked_41 (by rw [eT_0u3]; rfl) (fun H locs hS => ?_)
        refine lv_lload hx hb dX4_unpacked_42 (lv_at hl 2 rfl) ?_
        refine lv_iconst (v := (nI 5)) hx hb dX4_unpacked_44 (by decide) ?_
        refine lv_lshr hx hb dX4_unpacked_45 rfl ?_
        refine lv_lstore (lv' := [(5, .long (v5 >>> (((nI 5) : Int32).toInt64 &&& 63))), (0, .ref h_0), (3, .int v3), (7, .int v7)]) hx hb dX4_unpacked_46 hl (by decide) rfl (fun ls hl => ?_)
        refine lv_iinc (v := v7 + (-1)) (lv' := [(7, .int (v7 + (-1))), (5, .long (v5 >>> (((nI 5) : Int32).toInt64 &&& 63))), (0, .ref h_0), (3, .int v3)]) hx hb dX4_unpacked_48 hl (k := 3) rfl rfl (by decide) rfl (fun ls hl => ?_)
        refine lv_goto (tgt := 17) hx hb dX4_unpacked_51 (by decide) ?_
        exact hK17 T_0u3 v3 (v5 >>> (((nI 5) : Int32).toInt64 &&& 63)) (v7 + (-1)) _ _ _ hS (lv_sub hl [2, 3, 1, 0] rfl) hF
  have L17 : ∀  (n : Nat) (T_0 : Nat → Nat → Int32) (v3 : Int32) (v5 : Int64) (v7 : Int32) (H : Heap) (locs : List Loc) (ls : Array Slot), HS D A H0 [(h_0, oX4 g_0_rules h_0_lies h_0_tops h_0_list T_0), (h_0_lies, eI cI 16 (T_0 1)), (h_0_tops, eI cI 10 (T_0 2)), (h_0_list, eI cI 160 (T_0 3))] H locs → lv_has ls 8 [(0, .ref h_0), (3, .int v3), (5, .long v5), (7, .int v7)] → F_X4_unpacked_L17   n T_0 v3 v5 v7 = some (rv, r_T_0) → W p l e ({ frames := 1, cells := 0, slots := 0, locals := 21 } : Room) s m args below meth c H locs 0 0 Q (F0 m 17 ls []) := by
    intro  n
    induction n with
    | zero => intro T_0 v3 v5 v7 H locs ls hS hl hF; exact nomatch (show (none : Option (Int32 × (Nat → Nat → Int32))) = some _ from hF)
    | succ n ih => intro T_0 v3 v5 v7 H locs ls hS hl hF; exact S17  _ ih T_0 v3 v5 v7 H locs ls hS hl hF
  unfold F_X4_unpacked at hF
  refine lv_lload_n hx hb dX4_unpacked_0 rfl (lv_at hl 1 rfl) ?_
  refine lv_lstore (lv' := [(5, .long v1), (0, .ref h_0), (1, .long v1), (3, .int v3), (4, .int v4)]) hx hb dX4_unpacked_1 hl (by decide) rfl (fun ls hl => ?_)
  refine lv_iload hx hb dX4_unpacked_3 (lv_at hl 4 rfl) ?_
  refine lv_aload_n hx hb dX4_unpacked_5 rfl (lv_at hl 1 rfl) ?_
  refine r_get hx hb hts inX4 hown hK hS 0 1 rfl rfl (by decide) q0 rfl dX4_unpacked_6 ?_
  refine r_alenI hx hb hK hS 1 rfl rfl dX4_unpacked_9 ?_
  refine va_mmin hx hb (hml.trans hl.1.symm) hown q3 q4 q5 q6 (by decide) (by decide) (Nat.zero_le _) (Nat.zero_le _) dX4_unpacked_10 ?_
  refine lv_iconst (v := (nI 1)) hx hb dX4_unpacked_13 (by decide) ?_
  refine lv_isub hx hb dX4_unpacked_14 ?_
  refine lv_istore (lv' := [(7, .int ((if (nI 16) < v4 then (nI 16) else v4) - (nI 1))), (5, .long v1), (0, .ref h_0), (1, .long v1), (3, .int v3), (4, .int v4)]) hx hb dX4_unpacked_15 hl (by decide) rfl (fun ls hl => ?_)
  exact L17 FU T_0 v3 v1 ((if (nI 16) < v4 then (nI 16) else v4) - (nI 1)) _ _ _ hS (lv_sub hl [2, 4, 1, 0] rfl) hF
set_option maxHeartbeats 4000000 in
set_option maxRecDepth 100000 in
theorem c_X4_unpackTops (l : Launch) (D : va_G) (cI cJ : ClassId) (h_0 h_0_lies h_0_tops h_0_list g_0_rules : Nat) (T_0 : Nat → Nat → Int32) (v1 : Int64) (r_T_0 : Nat → Nat → Int32) (hF : F_X4_unpackTops T_0 v1 = some r_T_0) : CtV l D [(cI, .int), (cJ, .long)] yX4_unpackTops wtX4_unpackTops ({ frames := 0, cells := 0, slots := 0, locals := 0 } : Room) [.ref h_0, .long v1] [(h_0, oX4 g_0_rules h_0_lies h_0_tops h_0_list T_0), (h_0_lies, eI cI 16 (T_0 1)), (h_0_tops, eI cI 10 (T_0 2)), (h_0_list, eI cI 160 (T_0 3))] [(h_0, oX4 g_0_rules h_0_lies h_0_tops h_0_list r_T_0), (h_0_lies, eI cI 16 (r_T_0 1)), (h_0_tops, eI cI 10 (r_T_0 2)), (h_0_list, eI cI 160 (r_T_0 3))] := by
  refine CtV.of (cc := cX4_unpackTops) (maxL := 6) (by decide) rfl (Nat.le_of_ble_eq_true rfl) ?_
  intro p e s m args below meth c A H0 Q ls X hS hl kret
  have hCF := X.1
  obtain ⟨⟨hx, hb, hml, hown, hts⟩, hK, hA⟩ := X
  have hl : lv_has ls 6 [(0, .ref h_0), (1, .long v1)] := hl
  have q0 := hts (.fieldLink RX4 22 "Patiencery$Table" "tops" "[I") (List.mem_cons_of_mem _ mw_54)
  have inX4 : ∀ w ∈ u_ws RX4 TX4 7, w ∈ wtX4_unpackTops := fun w h => List.mem_cons_of_mem _ (inlX4 w h)
  have q2 := hts (.constantLong RX4 90 (31)) (List.mem_cons_of_mem _ mw_379)
  have S11 : ∀ (K11 : (Nat → Nat → Int32) → Int64 → Int32 → Option ((Nat → Nat → Int32))) (_ : ∀ (T_0 : Nat → Nat → Int32) (v3 : Int64) (v5 : Int32) (H : Heap) (locs : List Loc) (ls : Array Slot), HS D A H0 [(h_0, oX4 g_0_rules h_0_lies h_0_tops h_0_list T_0), (h_0_lies, eI cI 16 (T_0 1)), (h_0_tops, eI cI 10 (T_0 2)), (h_0_list, eI cI 160 (T_0 3))] H locs → lv_has ls 6 [(0, .ref h_0), (3, .long v3), (5, .int v5)] → K11 T_0 v3 v5 = some r_T_0 → W p l e ({ frames := 0, cells := 0, slots := 0, locals := 0 } : Room) s m args below meth c H locs 0 0 Q (F0 m 11 ls [])) (T_0 : Nat → Nat → Int32) (v3 : Int64) (v5 : Int32) (H : Heap) (locs : List Loc) (ls : Array Slot), HS D A H0 [(h_0, oX4 g_0_rules h_0_lies h_0_tops h_0_list T_0), (h_0_lies, eI cI 16 (T_0 1)), (h_0_tops, eI cI 10 (T_0 2)), (h_0_list, eI cI 160 (T_0 3))] H locs → lv_has ls 6 [(0, .ref h_0), (3, .long v3), (5, .int v5)] → F_X4_unpackTops_s11  K11 T_0 v3 v5 = some r_T_0 → W p l e ({ frames := 0, cells := 0, slots := 0, locals := 0 } : Room) s m args below meth c H locs 0 0 Q (F0 m 11 ls []) := by
    intro K11 hK11 T_0 v3 v5 H locs ls hS hl hF
    unfold F_X4_unpackTops_s11 at hF
    refine lv_iload hx hb dX4_unpackTops_11 (lv_at hl 2 rfl) ?_
    refine lv_if_lt (tgt := 41) hx hb dX4_unpackTops_13 (by decide) (fun c_1 => ?_) (fun c_1 => ?_)
    · replace hF := ifp hF c_1
      have e9_0 := Option.some.inj hF
      subst e9_0
      exact kret _ _ _ _ hS dX4_unpackTops_41
    · replace hF := ifn hF c_1
      refine lv_aload_n hx hb dX4_unpackTops_16 rfl (lv_at hl 0 rfl) ?_
      refine r_get hx hb hts inX4 hown hK hS 0 2 rfl rfl (by decide) q0 rfl dX4_unpackTops_17 ?_
      refine lv_iload hx hb dX4_unpackTops_20 (lv_at hl 2 rfl) ?_
      refine lv_lload_n hx hb dX4_unpackTops_22 rfl (lv_at hl 1 rfl) ?_
      refine lv_ldc2 (v := (lN 31)) hx hb hown q2 dX4_unpackTops_23 ?_
      refine lv_land hx hb dX4_unpackTops_26 ?_
      refine lv_l2i hx hb dX4_unpackTops_27 rfl ?_
      refine lv_iconst (v := (nI 1)) hx hb dX4_unpackTops_28 (by decide) ?_
      refine lv_isub hx hb dX4_unpackTops_29 ?_
      replace hF := wrA_e hF
      obtain ⟨hi3, T_0u2, eT_0u2, hF⟩ := hF
      refine r_iast (w2 := [(h_0, oX4 g_0_rules h_0_lies h_0_tops h_0_list T_0u2), (h_0_lies, eI cI 16 (T_0u2 1)), (h_0_tops, eI cI 10 (T_0u2 2)), (h_0_list, eI cI 160 (T_0u2 3))]) hx hb hK hS 2 rfl rfl hi3 dX4_unpackTops_30 (by rw [eT_0u2]; rfl) (fun H locs hS => ?_)
      refine lv_lload_n hx hb dX4_unpackTops_31 rfl (lv_at hl 1 rfl) ?_
      refine lv_iconst (v := (nI 5)) hx hb dX4_unpackTops_32 (by decide) ?_
      refine lv_lshr hx hb dX4_unpackTops_33 rfl ?_
      refine lv_lstore_n (lv' := [(3, .long (v3 >>> (((nI 5) : Int32).toInt64 &&& 63))), (0, .ref h_0), (5, .int v5)]) hx hb dX4_unpackTops_34 rfl hl (by decide) rfl (fun ls hl => ?_)
      refine lv_iinc (v := v5 + (-1)) (lv' := [(5, .int (v5 + (-1))), (3, .long (v3 >>> (((nI 5) : Int32).toInt64 &&& 63))), (0, .ref h_0)]) hx hb dX4_unpackTops_35 hl (k := 2) rfl rfl (by decide) rfl (fun ls hl => ?_)
      refine lv_goto (tgt := 11) hx hb dX4_unpackTops_38 (by decide) ?_
      exact hK11 T_0u2 (v3 >>> (((nI 5) : Int32).toInt64 &&& 63)) (v5 + (-1)) _ _ _ hS (lv_sub hl [2, 1, 0] rfl) hF
  have L11 : ∀  (n : Nat) (T_0 : Nat → Nat → Int32) (v3 : Int64) (v5 : Int32) (H : Heap) (locs : List Loc) (ls : Array Slot), HS D A H0 [(h_0, oX4 g_0_rules h_0_lies h_0_tops h_0_list T_0), (h_0_lies, eI cI 16 (T_0 1)), (h_0_tops, eI cI 10 (T_0 2)), (h_0_list, eI cI 160 (T_0 3))] H locs → lv_has ls 6 [(0, .ref h_0), (3, .long v3), (5, .int v5)] → F_X4_unpackTops_L11   n T_0 v3 v5 = some r_T_0 → W p l e ({ frames := 0, cells := 0, slots := 0, locals := 0 } : Room) s m args below meth c H locs 0 0 Q (F0 m 11 ls []) := by
    intro  n
    induction n with
    | zero => intro T_0 v3 v5 H locs ls hS hl hF; exact nomatch (show (none : Option ((Nat → Nat → Int32))) = some _ from hF)
    | succ n ih => intro T_0 v3 v5 H locs ls hS hl hF; exact S11  _ ih T_0 v3 v5 H locs ls hS hl hF
  unfold F_X4_unpackTops at hF
  refine lv_lload_n hx hb dX4_unpackTops_0 rfl (lv_at hl 1 rfl) ?_
  refine lv_lstore_n (lv' := [(3, .long v1), (0, .ref h_0), (1, .long v1)]) hx hb dX4_unpackTops_1 rfl hl (by decide) rfl (fun ls hl => ?_)
  refine lv_aload_n hx hb dX4_unpackTops_2 rfl (lv_at hl 1 rfl) ?_
  refine r_get hx hb hts inX4 hown hK hS 0 2 rfl rfl (by decide) q0 rfl dX4_unpackTops_3 ?_
  refine r_alenI hx hb hK hS 2 rfl rfl dX4_unpackTops_6 ?_
  refine lv_iconst (v := (nI 1)) hx hb dX4_unpackTops_7 (by decide) ?_
  refine lv_isub hx hb dX4_unpackTops_8 ?_
  refine lv_istore (lv' := [(5, .int ((nI 10) - (nI 1))), (3, .long v1), (0, .ref h_0), (1, .long v1)]) hx hb dX4_unpackTops_9 hl (by decide) rfl (fun ls hl => ?_)
  exact L11 FU T_0 v1 ((nI 10) - (nI 1)) _ _ _ hS (lv_sub hl [2, 1, 0] rfl) hF
set_option maxHeartbeats 4000000 in
set_option maxRecDepth 100000 in
theorem c_X4_listedAt (l : Launch) (D : va_G) (cI cJ : ClassId) (h_0 h_0_lies h_0_tops h_0_list g_0_rules : Nat) (T_0 : Nat → Nat → Int32) (v1 : Int32) (rv : Int32) (hF : F_X4_listedAt T_0 v1 = some rv) : CtI l D [(cI, .int), (cJ, .long)] yX4_listedAt wtX4_listedAt ({ frames := 1, cells := 0, slots := 0, locals := 21 } : Room) [.ref h_0, .int v1] [(h_0, oX4 g_0_rules h_0_lies h_0_tops h_0_list T_0), (h_0_lies, eI cI 16 (T_0 1)), (h_0_tops, eI cI 10 (T_0 2)), (h_0_list, eI cI 160 (T_0 3))] [(h_0, oX4 g_0_rules h_0_lies h_0_tops h_0_list T_0), (h_0_lies, eI cI 16 (T_0 1)), (h_0_tops, eI cI 10 (T_0 2)), (h_0_list, eI cI 160 (T_0 3))] rv := by
  refine CtI.of (cc := cX4_listedAt) (maxL := 2) (by decide) rfl (Nat.le_of_ble_eq_true rfl) ?_
  intro p e s m args below meth c A H0 Q ls X hS hl kret
  have hCF := X.1
  obtain ⟨⟨hx, hb, hml, hown, hts⟩, hK, hA⟩ := X
  have hl : lv_has ls 2 [(0, .ref h_0), (1, .int v1)] := hl
  have q0 := hts (.fieldLink RX4 28 "Patiencery$Table" "listed" "I") (List.mem_cons_of_mem _ mw_56)
  have inX4 : ∀ w ∈ u_ws RX4 TX4 7, w ∈ wtX4_listedAt := fun w h => List.mem_cons_of_mem _ (inlX4 w h)
  have q2 := hts (.fieldLink RX4 25 "Patiencery$Table" "list" "[I") (List.mem_cons_of_mem _ mw_55)
  unfold F_X4_listedAt at hF
  refine lv_iload_n hx hb dX4_listedAt_0 rfl (lv_at hl 1 rfl) ?_
  refine lv_aload_n hx hb dX4_listedAt_1 rfl (lv_at hl 0 rfl) ?_
  refine r_get hx hb hts inX4 hown hK hS 0 4 rfl rfl (by decide) q0 rfl dX4_listedAt_2 ?_
  refine lv_icmp_ge (tgt := 19) hx hb dX4_listedAt_5 (by decide) (fun c_1 => ?_) (fun c_1 => ?_)
  · replace hF := ifp hF c_1
    refine lv_iconst (v := (-1)) hx hb dX4_listedAt_19 (by decide) ?_
    have e9_0 := Option.some.inj hF
    subst e9_0
    exact kret _ _ _ _ hS dX4_listedAt_20
  · replace hF := ifn hF c_1
    refine lv_aload_n hx hb dX4_listedAt_8 rfl (lv_at hl 0 rfl) ?_
    refine r_get hx hb hts inX4 hown hK hS 0 3 rfl rfl (by decide) q2 rfl dX4_listedAt_9 ?_
    refine lv_iload_n hx hb dX4_listedAt_12 rfl (lv_at hl 1 rfl) ?_
    replace hF := cal1_e hF
    obtain ⟨x2, hc3, hF⟩ := hF
    refine kN_i (As := [.ref h_0_list, .int v1]) (rest := []) (wr := [(h_0, oX4 g_0_rules h_0_lies h_0_tops h_0_list T_0), (h_0_lies, eI cI 16 (T_0 1)), (h_0_tops, eI cI 10 (T_0 2))]) (w2 := [(h_0, oX4 g_0_rules h_0_lies h_0_tops h_0_list T_0), (h_0_lies, eI cI 16 (T_0 1)), (h_0_tops, eI cI 10 (T_0 2)), (h_0_list, eI cI 160 (T_0 3))]) hCF hK (c_X5_at l D cI cJ h_0_list 160 (T_0 3) v1 x2 hc3) (cwN 2 hK hts (TBL_C mw_114) rfl rfl rfl (host := RX5) (List.mem_of_getElem? (i := 10) rfl) (List.mem_cons_of_mem _ mw_2) (List.mem_cons_of_mem _ mw_113) pmX5_at.2 ⟨Nat.le_of_ble_eq_true rfl, Nat.le_of_ble_eq_true rfl⟩) hS hA [3] [0, 1, 2] rfl rfl rfl rfl (by decide) rfl hl.1 rfl (Nat.le_of_ble_eq_true rfl) ⟨Nat.zero_le _, Nat.zero_le _⟩ dX4_listedAt_13 rfl (fun H locs hS => ?_)
    refine lv_goto (tgt := 20) hx hb dX4_listedAt_16 (by decide) ?_
    have e9_0 := Option.some.inj hF
    subst e9_0
    exact kret _ _ _ _ hS dX4_listedAt_20
set_option maxHeartbeats 4000000 in
set_option maxRecDepth 100000 in
theorem c_X4_lay (l : Launch) (D : va_G) (cI cJ : ClassId) (h_0 h_0_lies h_0_tops h_0_list h_1 h_2 h_2_row h_2_taken g_0_rules : Nat) (r_1 : Nat → Int32) (D_2 : Nat → Nat → Int32) (T_0 : Nat → Nat → Int32) (r_T_0 : Nat → Nat → Int32) (hF : F_X4_lay r_1 D_2 T_0 = some r_T_0) : CtV l D [(cI, .int), (cJ, .long)] yX4_lay wtX4_lay ({ frames := 2, cells := 0, slots := 0, locals := 46 } : Room) [.ref h_0, .ref h_1, .ref h_2] [(h_0, oX4 g_0_rules h_0_lies h_0_tops h_0_list T_0), (h_0_lies, eI cI 16 (T_0 1)), (h_0_tops, eI cI 10 (T_0 2)), (h_0_list, eI cI 160 (T_0 3)), (h_1, oX1 r_1), (h_2, oX0 h_2_row h_2_taken), (h_2_row, eI cI 16 (D_2 0)), (h_2_taken, eI cI 16 (D_2 1))] [(h_0, oX4 h_1 h_0_lies h_0_tops h_0_list r_T_0), (h_0_lies, eI cI 16 (r_T_0 1)), (h_0_tops, eI cI 10 (r_T_0 2)), (h_0_list, eI cI 160 (r_T_0 3)), (h_1, oX1 r_1), (h_2, oX0 h_2_row h_2_taken), (h_2_row, eI cI 16 (D_2 0)), (h_2_taken, eI cI 16 (D_2 1))] := by
  refine CtV.of (cc := cX4_lay) (maxL := 7) (by decide) rfl (Nat.le_of_ble_eq_true rfl) ?_
  intro p e s m args below meth c A H0 Q ls X hS hl kret
  have hCF := X.1
  obtain ⟨⟨hx, hb, hml, hown, hts⟩, hK, hA⟩ := X
  have hl : lv_has ls 7 [(0, .ref h_0), (1, .ref h_1), (2, .ref h_2)] := hl
  have q0 := hts (.fieldLink RX4 64 "Patiencery$Rules" "isHidden" "Z") (List.mem_cons_of_mem _ mw_122)
  have inX1 : ∀ w ∈ u_ws RX1 TX1 9, w ∈ wtX4_lay := fun w h => List.mem_cons_of_mem _ (inlX1 w h)
  have q2 := hts (.fieldLink RX4 32 "Patiencery$Table" "hidden" "I") (List.mem_cons_of_mem _ mw_57)
  have inX4 : ∀ w ∈ u_ws RX4 TX4 7, w ∈ wtX4_lay := fun w h => List.mem_cons_of_mem _ (inlX4 w h)
  have q4 := hts (.fieldLink RX4 57 "Patiencery$Rules" "columns" "I") (List.mem_cons_of_mem _ mw_121)
  have q5 := hts (.fieldLink RX4 12 "Patiencery$Table" "rules" "LPatiencery$Rules;") (List.mem_cons_of_mem _ mw_51)
  have q6 := hts (.fieldLink RX4 35 "Patiencery$Table" "turned" "I") (List.mem_cons_of_mem _ mw_58)
  have q7 := hts (.fieldLink RX4 18 "Patiencery$Table" "lies" "[I") (List.mem_cons_of_mem _ mw_53)
  have q8 := hts (.fieldLink RX4 22 "Patiencery$Table" "tops" "[I") (List.mem_cons_of_mem _ mw_54)
  have B119 : ∀ (K40 : (Nat → Nat → Int32) → Int32 → Int32 → Option ((Nat → Nat → Int32))) (_ : ∀ (T_0 : Nat → Nat → Int32) (v3 : Int32) (v4 : Int32) (H : Heap) (locs : List Loc) (ls : Array Slot), HS D A H0 [(h_0, oX4 h_1 h_0_lies h_0_tops h_0_list T_0), (h_0_lies, eI cI 16 (T_0 1)), (h_0_tops, eI cI 10 (T_0 2)), (h_0_list, eI cI 160 (T_0 3)), (h_1, oX1 r_1), (h_2, oX0 h_2_row h_2_taken), (h_2_row, eI cI 16 (D_2 0)), (h_2_taken, eI cI 16 (D_2 1))] H locs → lv_has ls 7 [(0, .ref h_0), (1, .ref h_1), (2, .ref h_2), (3, .int v3), (4, .int v4)] → K40 T_0 v3 v4 = some r_T_0 → W p l e ({ frames := 2, cells := 0, slots := 0, locals := 46 } : Room) s m args below meth c H locs 0 0 Q (F0 m 40 ls [])) (T_0 : Nat → Nat → Int32) (v3 : Int32) (v4 : Int32) (v5 : Int32) (H : Heap) (locs : List Loc) (ls : Array Slot), HS D A H0 [(h_0, oX4 h_1 h_0_lies h_0_tops h_0_list T_0), (h_0_lies, eI cI 16 (T_0 1)), (h_0_tops, eI cI 10 (T_0 2)), (h_0_list, eI cI 160 (T_0 3)), (h_1, oX1 r_1), (h_2, oX0 h_2_row h_2_taken), (h_2_row, eI cI 16 (D_2 0)), (h_2_taken, eI cI 16 (D_2 1))] H locs → lv_has ls 7 [(0, .ref h_0), (1, .ref h_1), (2, .ref h_2), (3, .int v3), (4, .int v4), (5, .int v5)] → F_X4_lay_b119 r_1 D_2 K40 T_0 v3 v4 v5 = some r_T_0 → W p l e ({ frames := 2, cells := 0, slots := 0, locals := 46 } : Room) s m args below meth c H locs 0 0 Q (F0 m 119 ls []) := by
    intro K40 hK40 T_0 v3 v4 v5 H locs ls hS hl hF
    unfold F_X4_lay_b119 at hF
    refine lv_aload_n hx hb dX4_lay_119 rfl (lv_at hl 0 rfl) ?_
    refine lv_aload_n hx hb dX4_lay_120 rfl (lv_at hl 2 rfl) ?_
    refine lv_iload hx hb dX4_lay_121 (lv_at hl 4 rfl) ?_
    replace hF := cal1_e hF
    obtain ⟨x1, hc2, hF⟩ := hF
    refine kV_i (As := [.int v4]) (rest := [.ref h_0]) (wr := [(h_0, oX4 h_1 h_0_lies h_0_tops h_0_list T_0), (h_0_lies, eI cI 16 (T_0 1)), (h_0_tops, eI cI 10 (T_0 2)), (h_0_list, eI cI 160 (T_0 3)), (h_1, oX1 r_1)]) (w2 := [(h_0, oX4 h_1 h_0_lies h_0_tops h_0_list T_0), (h_0_lies, eI cI 16 (T_0 1)), (h_0_tops, eI cI 10 (T_0 2)), (h_0_list, eI cI 160 (T_0 3)), (h_1, oX1 r_1), (h_2, oX0 h_2_row h_2_taken), (h_2_row, eI cI 16 (D_2 0)), (h_2_taken, eI cI 16 (D_2 1))]) hCF hK (c_X0_takenAt l D cI cJ h_2 h_2_row h_2_taken D_2 v4 x1 hc2) (cwV 1 hts (TBL_V mw_139 mw_140 mw_141 mw_29 mw_142) rfl rfl rfl pmX0_takenAt ⟨Nat.le_of_ble_eq_true rfl, Nat.le_of_ble_eq_true rfl⟩) hS hA [5, 6, 7] [0, 1, 2, 3, 4] rfl rfl rfl rfl (by decide) rfl rfl rfl hl.1 rfl (Nat.le_of_ble_eq_true rfl) ⟨Nat.zero_le _, Nat.zero_le _⟩ dX4_lay_123 rfl (fun H locs hS => ?_)
    refine lv_aload_n hx hb dX4_lay_126 rfl (lv_at hl 2 rfl) ?_
    refine lv_iload hx hb dX4_lay_127 (lv_at hl 4 rfl) ?_
    replace hF := cal1_e hF
    obtain ⟨x3, hc4, hF⟩ := hF
    refine kV_i (As := [.int v4]) (rest := [.int x1, .ref h_0]) (wr := [(h_0, oX4 h_1 h_0_lies h_0_tops h_0_list T_0), (h_0_lies, eI cI 16 (T_0 1)), (h_0_tops, eI cI 10 (T_0 2)), (h_0_list, eI cI 160 (T_0 3)), (h_1, oX1 r_1)]) (w2 := [(h_0, oX4 h_1 h_0_lies h_0_tops h_0_list T_0), (h_0_lies, eI cI 16 (T_0 1)), (h_0_tops, eI cI 10 (T_0 2)), (h_0_list, eI cI 160 (T_0 3)), (h_1, oX1 r_1), (h_2, oX0 h_2_row h_2_taken), (h_2_row, eI cI 16 (D_2 0)), (h_2_taken, eI cI 16 (D_2 1))]) hCF hK (c_X0_takenAt l D cI cJ h_2 h_2_row h_2_taken D_2 v4 x3 hc4) (cwV 1 hts (TBL_V mw_139 mw_140 mw_141 mw_29 mw_142) rfl rfl rfl pmX0_takenAt ⟨Nat.le_of_ble_eq_true rfl, Nat.le_of_ble_eq_true rfl⟩) hS hA [5, 6, 7] [0, 1, 2, 3, 4] rfl rfl rfl rfl (by decide) rfl rfl rfl hl.1 rfl (Nat.le_of_ble_eq_true rfl) ⟨Nat.zero_le _, Nat.zero_le _⟩ dX4_lay_129 rfl (fun H locs hS => ?_)
    refine lv_iload hx hb dX4_lay_132 (lv_at hl 5 rfl) ?_
    replace hF := cal1_e hF
    obtain ⟨T_0u5, hc6, hF⟩ := hF
    refine kV_v (As := [.int x1, .int x3, .int v5]) (rest := []) (wr := [(h_1, oX1 r_1), (h_2, oX0 h_2_row h_2_taken), (h_2_row, eI cI 16 (D_2 0)), (h_2_taken, eI cI 16 (D_2 1))]) (w2 := [(h_1, oX1 r_1), (h_2, oX0 h_2_row h_2_taken), (h_2_row, eI cI 16 (D_2 0)), (h_2_taken, eI cI 16 (D_2 1)), (h_0, oX4 h_1 h_0_lies h_0_tops h_0_list T_0u5), (h_0_lies, eI cI 16 (T_0u5 1)), (h_0_tops, eI cI 10 (T_0u5 2)), (h_0_list, eI cI 160 (T_0u5 3))]) hCF hK (c_X4_layOn l D cI cJ h_0 h_0_lies h_0_tops h_0_list h_1 T_0 x1 x3 v5 T_0u5 hc6) (cwV 3 hts (TBL_V mw_143 mw_144 mw_145 mw_17 mw_146) rfl rfl rfl pmX4_layOn ⟨Nat.le_of_ble_eq_true rfl, Nat.le_of_ble_eq_true rfl⟩) hS hA [0, 1, 2, 3] [4, 5, 6, 7] rfl rfl rfl rfl (by decide) rfl rfl rfl hl.1 rfl (Nat.le_of_ble_eq_true rfl) ⟨Nat.zero_le _, Nat.zero_le _⟩ dX4_lay_134 rfl (fun H locs hS => ?_)
    refine lv_iinc (v := v4 + (nI 1)) (lv' := [(4, .int (v4 + (nI 1))), (0, .ref h_0), (1, .ref h_1), (2, .ref h_2), (3, .int v3), (5, .int v5)]) hx hb dX4_lay_137 hl (k := 4) rfl rfl (by decide) rfl (fun ls hl => ?_)
    refine lv_goto (tgt := 40) hx hb dX4_lay_140 (by decide) ?_
    exact hK40 T_0u5 v3 (v4 + (nI 1)) _ _ _ (hS.sub [4, 5, 6, 7, 0, 1, 2, 3] rfl rfl) (lv_sub hl [1, 2, 3, 4, 0] rfl) hF
  have B74 : ∀ (K40 : (Nat → Nat → Int32) → Int32 → Int32 → Option ((Nat → Nat → Int32))) (_ : ∀ (T_0 : Nat → Nat → Int32) (v3 : Int32) (v4 : Int32) (H : Heap) (locs : List Loc) (ls : Array Slot), HS D A H0 [(h_0, oX4 h_1 h_0_lies h_0_tops h_0_list T_0), (h_0_lies, eI cI 16 (T_0 1)), (h_0_tops, eI cI 10 (T_0 2)), (h_0_list, eI cI 160 (T_0 3)), (h_1, oX1 r_1), (h_2, oX0 h_2_row h_2_taken), (h_2_row, eI cI 16 (D_2 0)), (h_2_taken, eI cI 16 (D_2 1))] H locs → lv_has ls 7 [(0, .ref h_0), (1, .ref h_1), (2, .ref h_2), (3, .int v3), (4, .int v4)] → K40 T_0 v3 v4 = some r_T_0 → W p l e ({ frames := 2, cells := 0, slots := 0, locals := 46 } : Room) s m args below meth c H locs 0 0 Q (F0 m 40 ls [])) (T_0 : Nat → Nat → Int32) (v3 : Int32) (v4 : Int32) (s0 : Int32) (H : Heap) (locs : List Loc) (ls : Array Slot), HS D A H0 [(h_0, oX4 h_1 h_0_lies h_0_tops h_0_list T_0), (h_0_lies, eI cI 16 (T_0 1)), (h_0_tops, eI cI 10 (T_0 2)), (h_0_list, eI cI 160 (T_0 3)), (h_1, oX1 r_1), (h_2, oX0 h_2_row h_2_taken), (h_2_row, eI cI 16 (D_2 0)), (h_2_taken, eI cI 16 (D_2 1))] H locs → lv_has ls 7 [(0, .ref h_0), (1, .ref h_1), (2, .ref h_2), (3, .int v3), (4, .int v4)] → F_X4_lay_b74 r_1 D_2 K40 T_0 v3 v4 s0 = some r_T_0 → W p l e ({ frames := 2, cells := 0, slots := 0, locals := 46 } : Room) s m args below meth c H locs 0 0 Q (F0 m 74 ls [.int s0]) := by
    intro K40 hK40 T_0 v3 v4 s0 H locs ls hS hl hF
    unfold F_X4_lay_b74 at hF
    refine lv_istore (lv' := [(5, .int s0), (0, .ref h_0), (1, .ref h_1), (2, .ref h_2), (3, .int v3), (4, .int v4)]) hx hb dX4_lay_74 hl (by decide) rfl (fun ls hl => ?_)
    refine lv_aload_n hx hb dX4_lay_76 rfl (lv_at hl 1 rfl) ?_
    refine lv_iload hx hb dX4_lay_77 (lv_at hl 0 rfl) ?_
    replace hF := cal1_e hF
    obtain ⟨x7, hc8, hF⟩ := hF
    refine kV_i (As := [.int s0]) (rest := []) (wr := [(h_1, oX1 r_1), (h_2, oX0 h_2_row h_2_taken), (h_2_row, eI cI 16 (D_2 0)), (h_2_taken, eI cI 16 (D_2 1))]) (w2 := [(h_1, oX1 r_1), (h_2, oX0 h_2_row h_2_taken), (h_2_row, eI cI 16 (D_2 0)), (h_2_taken, eI cI 16 (D_2 1)), (h_0, oX4 h_1 h_0_lies h_0_tops h_0_list T_0), (h_0_lies, eI cI 16 (T_0 1)), (h_0_tops, eI cI 10 (T_0 2)), (h_0_list, eI cI 160 (T_0 3))]) hCF hK (c_X4_topOf l D cI cJ h_0 h_0_lies h_0_tops h_0_list h_1 T_0 s0 x7 hc8) (cwV 1 hts (TBL_V mw_133 mw_134 mw_135 mw_17 mw_136) rfl rfl rfl pmX4_topOf ⟨Nat.le_of_ble_eq_true rfl, Nat.le_of_ble_eq_true rfl⟩) hS hA [0, 1, 2, 3] [4, 5, 6, 7] rfl rfl rfl rfl (by decide) rfl rfl rfl hl.1 rfl (Nat.le_of_ble_eq_true rfl) ⟨Nat.zero_le _, Nat.zero_le _⟩ dX4_lay_79 rfl (fun H locs hS => ?_)
    refine lv_istore (lv' := [(6, .int x7), (5, .int s0), (0, .ref h_0), (1, .ref h_1), (2, .ref h_2), (3, .int v3), (4, .int v4)]) hx hb dX4_lay_82 hl (by decide) rfl (fun ls hl => ?_)
    refine lv_aload_n hx hb dX4_lay_84 rfl (lv_at hl 3 rfl) ?_
    refine r_get hx hb hts inX1 hown hK hS 0 8 rfl rfl (by decide) q0 rfl dX4_lay_85 ?_
    refine lv_if_eq (tgt := 119) hx hb dX4_lay_88 (by decide) (fun c_9 => ?_) (fun c_9 => ?_)
    · replace hF := ifp hF c_9
      exact B119 K40 hK40 T_0 v3 v4 s0 _ _ _ (hS.sub [4, 5, 6, 7, 0, 1, 2, 3] rfl rfl) (lv_sub hl [2, 3, 4, 5, 6, 1] rfl) hF
    · replace hF := ifn hF c_9
      refine lv_iload hx hb dX4_lay_91 (lv_at hl 1 rfl) ?_
      refine lv_bipush (v := (nI 9)) hx hb dX4_lay_93 (by decide) ?_
      refine lv_icmp_eq (tgt := 119) hx hb dX4_lay_95 (by decide) (fun c_10 => ?_) (fun c_10 => ?_)
      · replace hF := ifp hF c_10
        exact B119 K40 hK40 T_0 v3 v4 s0 _ _ _ (hS.sub [4, 5, 6, 7, 0, 1, 2, 3] rfl rfl) (lv_sub hl [2, 3, 4, 5, 6, 1] rfl) hF
      · replace hF := ifn hF c_10
        refine lv_iload hx hb dX4_lay_98 (lv_at hl 0 rfl) ?_
        replace hF := cal1_e hF
        obtain ⟨x11, hc12, hF⟩ := hF
        refine kN_i (As := [.int x7]) (rest := []) (wr := [(h_1, oX1 r_1), (h_2, oX0 h_2_row h_2_taken), (h_2_row, eI cI 16 (D_2 0)), (h_2_taken, eI cI 16 (D_2 1)), (h_0, oX4 h_1 h_0_lies h_0_tops h_0_list T_0), (h_0_lies, eI cI 16 (T_0 1)), (h_0_tops, eI cI 10 (T_0 2)), (h_0_list, eI cI 160 (T_0 3))]) (w2 := [(h_1, oX1 r_1), (h_2, oX0 h_2_row h_2_taken), (h_2_row, eI cI 16 (D_2 0)), (h_2_taken, eI cI 16 (D_2 1)), (h_0, oX4 h_1 h_0_lies h_0_tops h_0_list T_0), (h_0_lies, eI cI 16 (T_0 1)), (h_0_tops, eI cI 10 (T_0 2)), (h_0_list, eI cI 160 (T_0 3))]) hCF hK (c_X5_isCard l D cI cJ x7 x11 hc12) (cwN 1 hK hts (TBL_C mw_138) rfl rfl rfl (host := RX5) (List.mem_of_getElem? (i := 8) rfl) (List.mem_cons_of_mem _ mw_2) (List.mem_cons_of_mem _ mw_137) pmX5_isCard.2 ⟨Nat.le_of_ble_eq_true rfl, Nat.le_of_ble_eq_true rfl⟩) hS hA [] [0, 1, 2, 3, 4, 5, 6, 7] rfl rfl rfl rfl (by decide) rfl hl.1 rfl (Nat.le_of_ble_eq_true rfl) ⟨Nat.zero_le _, Nat.zero_le _⟩ dX4_lay_100 rfl (fun H locs hS => ?_)
        refine lv_if_eq (tgt := 119) hx hb dX4_lay_103 (by decide) (fun c_13 => ?_) (fun c_13 => ?_)
        · replace hF := ifp hF c_13
          exact B119 K40 hK40 T_0 v3 v4 s0 _ _ _ (hS.sub [4, 5, 6, 7, 0, 1, 2, 3] rfl rfl) (lv_sub hl [2, 3, 4, 5, 6, 1] rfl) hF
        · replace hF := ifn hF c_13
          refine lv_aload_n hx hb dX4_lay_106 rfl (lv_at hl 2 rfl) ?_
          refine lv_dup hx hb dX4_lay_107 rfl ?_
          refine r_get hx hb hts inX4 hown hK hS 4 5 rfl rfl (by decide) q2 rfl dX4_lay_108 ?_
          refine lv_iconst (v := (nI 1)) hx hb dX4_lay_111 (by decide) ?_
          refine lv_iload hx hb dX4_lay_112 (lv_at hl 0 rfl) ?_
          refine lv_ishl hx hb dX4_lay_114 ?_
          refine lv_ior hx hb dX4_lay_115 ?_
          replace hF := bnd_e hF
          obtain ⟨T_0u14, eT_0u14, hF⟩ := hF
          refine r_put (w2 := [(h_1, oX1 r_1), (h_2, oX0 h_2_row h_2_taken), (h_2_row, eI cI 16 (D_2 0)), (h_2_taken, eI cI 16 (D_2 1)), (h_0, oX4 h_1 h_0_lies h_0_tops h_0_list T_0u14), (h_0_lies, eI cI 16 (T_0u14 1)), (h_0_tops, eI cI 10 (T_0u14 2)), (h_0_list, eI cI 160 (T_0u14 3))]) hx hb hts inX4 tyX4 tyX4_ok nmX4 hown hK hS 4 5 rfl rfl (by decide) q2 rfl rfl rfl (Nat.le_of_ble_eq_true rfl) dX4_lay_116 (by rw [eT_0u14]; rfl) (fun H locs hS => ?_)
          exact B119 K40 hK40 T_0u14 v3 v4 s0 _ _ _ (hS.sub [4, 5, 6, 7, 0, 1, 2, 3] rfl rfl) (lv_sub hl [2, 3, 4, 5, 6, 1] rfl) hF
  have S40 : ∀ (K40 : (Nat → Nat → Int32) → Int32 → Int32 → Option ((Nat → Nat → Int32))) (_ : ∀ (T_0 : Nat → Nat → Int32) (v3 : Int32) (v4 : Int32) (H : Heap) (locs : List Loc) (ls : Array Slot), HS D A H0 [(h_0, oX4 h_1 h_0_lies h_0_tops h_0_list T_0), (h_0_lies, eI cI 16 (T_0 1)), (h_0_tops, eI cI 10 (T_0 2)), (h_0_list, eI cI 160 (T_0 3)), (h_1, oX1 r_1), (h_2, oX0 h_2_row h_2_taken), (h_2_row, eI cI 16 (D_2 0)), (h_2_taken, eI cI 16 (D_2 1))] H locs → lv_has ls 7 [(0, .ref h_0), (1, .ref h_1), (2, .ref h_2), (3, .int v3), (4, .int v4)] → K40 T_0 v3 v4 = some r_T_0 → W p l e ({ frames := 2, cells := 0, slots := 0, locals := 46 } : Room) s m args below meth c H locs 0 0 Q (F0 m 40 ls [])) (T_0 : Nat → Nat → Int32) (v3 : Int32) (v4 : Int32) (H : Heap) (locs : List Loc) (ls : Array Slot), HS D A H0 [(h_0, oX4 h_1 h_0_lies h_0_tops h_0_list T_0), (h_0_lies, eI cI 16 (T_0 1)), (h_0_tops, eI cI 10 (T_0 2)), (h_0_list, eI cI 160 (T_0 3)), (h_1, oX1 r_1), (h_2, oX0 h_2_row h_2_taken), (h_2_row, eI cI 16 (D_2 0)), (h_2_taken, eI cI 16 (D_2 1))] H locs → lv_has ls 7 [(0, .ref h_0), (1, .ref h_1), (2, .ref h_2), (3, .int v3), (4, .int v4)] → F_X4_lay_s40 r_1 D_2 K40 T_0 v3 v4 = some r_T_0 → W p l e ({ frames := 2, cells := 0, slots := 0, locals := 46 } : Room) s m args below meth c H locs 0 0 Q (F0 m 40 ls []) := by
    intro K40 hK40 T_0 v3 v4 H locs ls hS hl hF
    unfold F_X4_lay_s40 at hF
    refine lv_iload hx hb dX4_lay_40 (lv_at hl 4 rfl) ?_
    refine lv_aload_n hx hb dX4_lay_42 rfl (lv_at hl 1 rfl) ?_
    replace hF := cal1_e hF
    obtain ⟨x15, hc16, hF⟩ := hF
    refine kV_i (As := []) (rest := [.int v4]) (wr := [(h_0, oX4 h_1 h_0_lies h_0_tops h_0_list T_0), (h_0_lies, eI cI 16 (T_0 1)), (h_0_tops, eI cI 10 (T_0 2)), (h_0_list, eI cI 160 (T_0 3)), (h_2, oX0 h_2_row h_2_taken), (h_2_row, eI cI 16 (D_2 0)), (h_2_taken, eI cI 16 (D_2 1))]) (w2 := [(h_0, oX4 h_1 h_0_lies h_0_tops h_0_list T_0), (h_0_lies, eI cI 16 (T_0 1)), (h_0_tops, eI cI 10 (T_0 2)), (h_0_list, eI cI 160 (T_0 3)), (h_2, oX0 h_2_row h_2_taken), (h_2_row, eI cI 16 (D_2 0)), (h_2_taken, eI cI 16 (D_2 1)), (h_1, oX1 r_1)]) hCF hK (c_X1_cards l D cI cJ h_1 r_1 x15 hc16) (cwV 0 hts (TBL_V mw_132 mw_94 mw_95 mw_12 mw_96) rfl rfl rfl pmX1_cards ⟨Nat.le_of_ble_eq_true rfl, Nat.le_of_ble_eq_true rfl⟩) hS hA [4] [0, 1, 2, 3, 5, 6, 7] rfl rfl rfl rfl (by decide) rfl rfl rfl hl.1 rfl (Nat.le_of_ble_eq_true rfl) ⟨Nat.zero_le _, Nat.zero_le _⟩ dX4_lay_43 rfl (fun H locs hS => ?_)
    refine lv_icmp_ge (tgt := 143) hx hb dX4_lay_46 (by decide) (fun c_17 => ?_) (fun c_17 => ?_)
    · replace hF := ifp hF c_17
      have e9_0 := Option.some.inj hF
      subst e9_0
      exact kret _ _ _ _ (hS.sub [0, 1, 2, 3, 7, 4, 5, 6] rfl rfl) dX4_lay_143
    · replace hF := ifn hF c_17
      refine lv_iload hx hb dX4_lay_49 (lv_at hl 4 rfl) ?_
      refine lv_iload_n hx hb dX4_lay_51 rfl (lv_at hl 3 rfl) ?_
      refine lv_icmp_ge (tgt := 72) hx hb dX4_lay_52 (by decide) (fun c_18 => ?_) (fun c_18 => ?_)
      · replace hF := ifp hF c_18
        refine lv_bipush (v := (nI 9)) hx hb dX4_lay_72 (by decide) ?_
        exact B74 K40 hK40 T_0 v3 v4 (nI 9) _ _ _ (hS.sub [0, 1, 2, 3, 7, 4, 5, 6] rfl rfl) (lv_sub hl [0, 1, 2, 3, 4] rfl) hF
      · replace hF := ifn hF c_18
        refine lv_aload_n hx hb dX4_lay_55 rfl (lv_at hl 1 rfl) ?_
        refine r_get hx hb hts inX1 hown hK hS 7 2 rfl rfl (by decide) q4 rfl dX4_lay_56 ?_
        refine lv_if_le (tgt := 72) hx hb dX4_lay_59 (by decide) (fun c_19 => ?_) (fun c_19 => ?_)
        · replace hF := ifp hF c_19
          refine lv_bipush (v := (nI 9)) hx hb dX4_lay_72 (by decide) ?_
          exact B74 K40 hK40 T_0 v3 v4 (nI 9) _ _ _ (hS.sub [0, 1, 2, 3, 7, 4, 5, 6] rfl rfl) (lv_sub hl [0, 1, 2, 3, 4] rfl) hF
        · replace hF := ifn hF c_19
          refine lv_iload hx hb dX4_lay_62 (lv_at hl 4 rfl) ?_
          refine lv_aload_n hx hb dX4_lay_64 rfl (lv_at hl 1 rfl) ?_
          refine r_get hx hb hts inX1 hown hK hS 7 2 rfl rfl (by decide) q4 rfl dX4_lay_65 ?_
          replace hF := nz_e hF
          obtain ⟨hne20, hF⟩ := hF
          refine lv_irem hx hb dX4_lay_68 hne20 ?_
          refine lv_goto (tgt := 74) hx hb dX4_lay_69 (by decide) ?_
          exact B74 K40 hK40 T_0 v3 v4 (v4 - v4 / (r_1 2) * (r_1 2)) _ _ _ (hS.sub [0, 1, 2, 3, 7, 4, 5, 6] rfl rfl) (lv_sub hl [0, 1, 2, 3, 4] rfl) hF
  have L40 : ∀  (n : Nat) (T_0 : Nat → Nat → Int32) (v3 : Int32) (v4 : Int32) (H : Heap) (locs : List Loc) (ls : Array Slot), HS D A H0 [(h_0, oX4 h_1 h_0_lies h_0_tops h_0_list T_0), (h_0_lies, eI cI 16 (T_0 1)), (h_0_tops, eI cI 10 (T_0 2)), (h_0_list, eI cI 160 (T_0 3)), (h_1, oX1 r_1), (h_2, oX0 h_2_row h_2_taken), (h_2_row, eI cI 16 (D_2 0)), (h_2_taken, eI cI 16 (D_2 1))] H locs → lv_has ls 7 [(0, .ref h_0), (1, .ref h_1), (2, .ref h_2), (3, .int v3), (4, .int v4)] → F_X4_lay_L40 r_1 D_2  n T_0 v3 v4 = some r_T_0 → W p l e ({ frames := 2, cells := 0, slots := 0, locals := 46 } : Room) s m args below meth c H locs 0 0 Q (F0 m 40 ls []) := by
    intro  n
    induction n with
    | zero => intro T_0 v3 v4 H locs ls hS hl hF; exact nomatch (show (none : Option ((Nat → Nat → Int32))) = some _ from hF)
    | succ n ih => intro T_0 v3 v4 H locs ls hS hl hF; exact S40  _ ih T_0 v3 v4 H locs ls hS hl hF
  unfold F_X4_lay at hF
  refine lv_aload_n hx hb dX4_lay_0 rfl (lv_at hl 0 rfl) ?_
  refine lv_aload_n hx hb dX4_lay_1 rfl (lv_at hl 1 rfl) ?_
  refine r_put (w2 := [(h_0, oX4 h_1 h_0_lies h_0_tops h_0_list T_0), (h_0_lies, eI cI 16 (T_0 1)), (h_0_tops, eI cI 10 (T_0 2)), (h_0_list, eI cI 160 (T_0 3)), (h_1, oX1 r_1), (h_2, oX0 h_2_row h_2_taken), (h_2_row, eI cI 16 (D_2 0)), (h_2_taken, eI cI 16 (D_2 1))]) hx hb hts inX4 tyX4 tyX4_ok nmX4 hown hK hS 0 0 rfl rfl (by decide) q5 rfl rfl rfl (Nat.le_of_ble_eq_true rfl) dX4_lay_2 rfl (fun H locs hS => ?_)
  refine lv_aload_n hx hb dX4_lay_5 rfl (lv_at hl 0 rfl) ?_
  refine lv_iconst (v := (nI 0)) hx hb dX4_lay_6 (by decide) ?_
  replace hF := bnd_e hF
  obtain ⟨T_0u21, eT_0u21, hF⟩ := hF
  refine r_put (w2 := [(h_0, oX4 h_1 h_0_lies h_0_tops h_0_list T_0u21), (h_0_lies, eI cI 16 (T_0u21 1)), (h_0_tops, eI cI 10 (T_0u21 2)), (h_0_list, eI cI 160 (T_0u21 3)), (h_1, oX1 r_1), (h_2, oX0 h_2_row h_2_taken), (h_2_row, eI cI 16 (D_2 0)), (h_2_taken, eI cI 16 (D_2 1))]) hx hb hts inX4 tyX4 tyX4_ok nmX4 hown hK hS 0 5 rfl rfl (by decide) q2 rfl rfl rfl (Nat.le_of_ble_eq_true rfl) dX4_lay_7 (by rw [eT_0u21]; rfl) (fun H locs hS => ?_)
  refine lv_aload_n hx hb dX4_lay_10 rfl (lv_at hl 0 rfl) ?_
  refine lv_iconst (v := (nI 0)) hx hb dX4_lay_11 (by decide) ?_
  replace hF := bnd_e hF
  obtain ⟨T_0u22, eT_0u22, hF⟩ := hF
  refine r_put (w2 := [(h_0, oX4 h_1 h_0_lies h_0_tops h_0_list T_0u22), (h_0_lies, eI cI 16 (T_0u22 1)), (h_0_tops, eI cI 10 (T_0u22 2)), (h_0_list, eI cI 160 (T_0u22 3)), (h_1, oX1 r_1), (h_2, oX0 h_2_row h_2_taken), (h_2_row, eI cI 16 (D_2 0)), (h_2_taken, eI cI 16 (D_2 1))]) hx hb hts inX4 tyX4 tyX4_ok nmX4 hown hK hS 0 6 rfl rfl (by decide) q6 rfl rfl rfl (Nat.le_of_ble_eq_true rfl) dX4_lay_12 (by rw [eT_0u22]; rfl) (fun H locs hS => ?_)
  refine lv_aload_n hx hb dX4_lay_15 rfl (lv_at hl 0 rfl) ?_
  refine r_get hx hb hts inX4 hown hK hS 0 1 rfl rfl (by decide) q7 rfl dX4_lay_16 ?_
  refine lv_bipush (v := (nI 20)) hx hb dX4_lay_19 (by decide) ?_
  replace hF := cal1_e hF
  obtain ⟨f23, hc24, hF⟩ := hF
  replace hF := bnd_e hF
  obtain ⟨T_0u25, eT_0u25, hF⟩ := hF
  refine kS_v (As := [.ref h_0_lies, .int (nI 20)]) (rest := []) (wr := [(h_0, oX4 h_1 h_0_lies h_0_tops h_0_list T_0u22), (h_0_tops, eI cI 10 (T_0u22 2)), (h_0_list, eI cI 160 (T_0u22 3)), (h_1, oX1 r_1), (h_2, oX0 h_2_row h_2_taken), (h_2_row, eI cI 16 (D_2 0)), (h_2_taken, eI cI 16 (D_2 1))]) (w2 := [(h_0, oX4 h_1 h_0_lies h_0_tops h_0_list T_0u25), (h_0_tops, eI cI 10 (T_0u25 2)), (h_0_list, eI cI 160 (T_0u25 3)), (h_1, oX1 r_1), (h_2, oX0 h_2_row h_2_taken), (h_2_row, eI cI 16 (D_2 0)), (h_2_taken, eI cI 16 (D_2 1)), (h_0_lies, eI cI 16 (T_0u25 1))]) hCF hK (c_J7_fill_53178 l D cI cJ h_0_lies 16 (T_0u22 1) (nI 20) f23 hc24) (va_cwS 2 hts (TBL_S mw_123 mw_124 mw_125 mw_126) rfl rfl rfl pmJ7_fill_53178.2 ⟨Nat.le_of_ble_eq_true rfl, Nat.le_of_ble_eq_true rfl⟩) hS hA [1] [0, 2, 3, 4, 5, 6, 7] rfl rfl rfl rfl (by decide) rfl hl.1 rfl (Nat.le_of_ble_eq_true rfl) ⟨Nat.zero_le _, Nat.zero_le _⟩ dX4_lay_21 (by rw [eT_0u25]; rfl) (fun H locs hS => ?_)
  refine lv_aload_n hx hb dX4_lay_24 rfl (lv_at hl 0 rfl) ?_
  refine r_get hx hb hts inX4 hown hK hS 0 2 rfl rfl (by decide) q8 rfl dX4_lay_25 ?_
  refine lv_iconst (v := (-1)) hx hb dX4_lay_28 (by decide) ?_
  replace hF := cal1_e hF
  obtain ⟨f26, hc27, hF⟩ := hF
  replace hF := bnd_e hF
  obtain ⟨T_0u28, eT_0u28, hF⟩ := hF
  refine kS_v (As := [.ref h_0_tops, .int (-1)]) (rest := []) (wr := [(h_0, oX4 h_1 h_0_lies h_0_tops h_0_list T_0u25), (h_0_list, eI cI 160 (T_0u25 3)), (h_1, oX1 r_1), (h_2, oX0 h_2_row h_2_taken), (h_2_row, eI cI 16 (D_2 0)), (h_2_taken, eI cI 16 (D_2 1)), (h_0_lies, eI cI 16 (T_0u25 1))]) (w2 := [(h_0, oX4 h_1 h_0_lies h_0_tops h_0_list T_0u28), (h_0_list, eI cI 160 (T_0u28 3)), (h_1, oX1 r_1), (h_2, oX0 h_2_row h_2_taken), (h_2_row, eI cI 16 (D_2 0)), (h_2_taken, eI cI 16 (D_2 1)), (h_0_lies, eI cI 16 (T_0u28 1)), (h_0_tops, eI cI 10 (T_0u28 2))]) hCF hK (c_J7_fill_53178 l D cI cJ h_0_tops 10 (T_0u25 2) (-1) f26 hc27) (va_cwS 2 hts (TBL_S mw_123 mw_124 mw_125 mw_126) rfl rfl rfl pmJ7_fill_53178.2 ⟨Nat.le_of_ble_eq_true rfl, Nat.le_of_ble_eq_true rfl⟩) hS hA [1] [0, 2, 3, 4, 5, 6, 7] rfl rfl rfl rfl (by decide) rfl hl.1 rfl (Nat.le_of_ble_eq_true rfl) ⟨Nat.zero_le _, Nat.zero_le _⟩ dX4_lay_29 (by rw [eT_0u28]; rfl) (fun H locs hS => ?_)
  refine lv_aload_n hx hb dX4_lay_32 rfl (lv_at hl 1 rfl) ?_
  replace hF := cal1_e hF
  obtain ⟨x29, hc30, hF⟩ := hF
  refine kV_i (As := []) (rest := []) (wr := [(h_0, oX4 h_1 h_0_lies h_0_tops h_0_list T_0u28), (h_0_list, eI cI 160 (T_0u28 3)), (h_2, oX0 h_2_row h_2_taken), (h_2_row, eI cI 16 (D_2 0)), (h_2_taken, eI cI 16 (D_2 1)), (h_0_lies, eI cI 16 (T_0u28 1)), (h_0_tops, eI cI 10 (T_0u28 2))]) (w2 := [(h_0, oX4 h_1 h_0_lies h_0_tops h_0_list T_0u28), (h_0_list, eI cI 160 (T_0u28 3)), (h_2, oX0 h_2_row h_2_taken), (h_2_row, eI cI 16 (D_2 0)), (h_2_taken, eI cI 16 (D_2 1)), (h_0_lies, eI cI 16 (T_0u28 1)), (h_0_tops, eI cI 10 (T_0u28 2)), (h_1, oX1 r_1)]) hCF hK (c_X1_inColumns l D cI cJ h_1 r_1 x29 hc30) (cwV 0 hts (TBL_V mw_127 mw_128 mw_129 mw_12 mw_130) rfl rfl rfl pmX1_inColumns ⟨Nat.le_of_ble_eq_true rfl, Nat.le_of_ble_eq_true rfl⟩) hS hA [2] [0, 1, 3, 4, 5, 6, 7] rfl rfl rfl rfl (by decide) rfl rfl rfl hl.1 rfl (Nat.le_of_ble_eq_true rfl) ⟨Nat.zero_le _, Nat.zero_le _⟩ dX4_lay_33 rfl (fun H locs hS => ?_)
  refine lv_istore_n (lv' := [(3, .int x29), (0, .ref h_0), (1, .ref h_1), (2, .ref h_2)]) hx hb dX4_lay_36 rfl hl (by decide) rfl (fun ls hl => ?_)
  refine lv_iconst (v := (nI 0)) hx hb dX4_lay_37 (by decide) ?_
  refine lv_istore (lv' := [(4, .int (nI 0)), (3, .int x29), (0, .ref h_0), (1, .ref h_1), (2, .ref h_2)]) hx hb dX4_lay_38 hl (by decide) rfl (fun ls hl => ?_)
  exact L40 FU T_0u28 x29 (nI 0) _ _ _ (hS.sub [0, 5, 6, 1, 7, 2, 3, 4] rfl rfl) (lv_sub hl [2, 3, 4, 1, 0] rfl) hF
set_option maxHeartbeats 4000000 in
set_option maxRecDepth 100000 in
theorem c_X4_highestUp (l : Launch) (D : va_G) (cI cJ : ClassId) (h_0 h_0_lies h_0_tops h_0_list h_0_rules : Nat) (T_0 : Nat → Nat → Int32) (r_0_rules : Nat → Int32) (v1 : Int32) (rv : Int32) (hF : F_X4_highestUp T_0 r_0_rules v1 = some rv) : CtI l D [(cI, .int), (cJ, .long)] yX4_highestUp wtX4_highestUp ({ frames := 2, cells := 0, slots := 0, locals := 42 } : Room) [.ref h_0, .int v1] [(h_0, oX4 h_0_rules h_0_lies h_0_tops h_0_list T_0), (h_0_lies, eI cI 16 (T_0 1)), (h_0_tops, eI cI 10 (T_0 2)), (h_0_list, eI cI 160 (T_0 3)), (h_0_rules, oX1 r_0_rules)] [(h_0, oX4 h_0_rules h_0_lies h_0_tops h_0_list T_0), (h_0_lies, eI cI 16 (T_0 1)), (h_0_tops, eI cI 10 (T_0 2)), (h_0_list, eI cI 160 (T_0 3)), (h_0_rules, oX1 r_0_rules)] rv := by
  refine CtI.of (cc := cX4_highestUp) (maxL := 4) (by decide) rfl (Nat.le_of_ble_eq_true rfl) ?_
  intro p e s m args below meth c A H0 Q ls X hS hl kret
  have hCF := X.1
  obtain ⟨⟨hx, hb, hml, hown, hts⟩, hK, hA⟩ := X
  have hl : lv_has ls 4 [(0, .ref h_0), (1, .int v1)] := hl
  have q0 := hts (.fieldLink RX4 12 "Patiencery$Table" "rules" "LPatiencery$Rules;") (List.mem_cons_of_mem _ mw_51)
  have inX4 : ∀ w ∈ u_ws RX4 TX4 7, w ∈ wtX4_highestUp := fun w h => List.mem_cons_of_mem _ (inlX4 w h)
  have q2 := hts (.fieldLink RX4 105 "Patiencery$Rules" "ranks" "I") (List.mem_cons_of_mem _ mw_495)
  have inX1 : ∀ w ∈ u_ws RX1 TX1 9, w ∈ wtX4_highestUp := fun w h => List.mem_cons_of_mem _ (inlX1 w h)
  have q4 := hts (.fieldLink RX4 102 "Patiencery$Rules" "suits" "I") (List.mem_cons_of_mem _ mw_494)
  have S21 : ∀ (K21 : Int32 → Int32 → Option (Int32)) (_ : ∀ (v1 : Int32) (v2 : Int32) (H : Heap) (locs : List Loc) (ls : Array Slot), HS D A H0 [(h_0, oX4 h_0_rules h_0_lies h_0_tops h_0_list T_0), (h_0_lies, eI cI 16 (T_0 1)), (h_0_tops, eI cI 10 (T_0 2)), (h_0_list, eI cI 160 (T_0 3)), (h_0_rules, oX1 r_0_rules)] H locs → lv_has ls 4 [(0, .ref h_0), (1, .int v1), (2, .int v2)] → K21 v1 v2 = some rv → W p l e ({ frames := 2, cells := 0, slots := 0, locals := 42 } : Room) s m args below meth c H locs 0 0 Q (F0 m 21 ls [])) (v1 : Int32) (v2 : Int32) (H : Heap) (locs : List Loc) (ls : Array Slot), HS D A H0 [(h_0, oX4 h_0_rules h_0_lies h_0_tops h_0_list T_0), (h_0_lies, eI cI 16 (T_0 1)), (h_0_tops, eI cI 10 (T_0 2)), (h_0_list, eI cI 160 (T_0 3)), (h_0_rules, oX1 r_0_rules)] H locs → lv_has ls 4 [(0, .ref h_0), (1, .int v1), (2, .int v2)] → F_X4_highestUp_s21 T_0 r_0_rules K21 v1 v2 = some rv → W p l e ({ frames := 2, cells := 0, slots := 0, locals := 42 } : Room) s m args below meth c H locs 0 0 Q (F0 m 21 ls []) := by
    intro K21 hK21 v1 v2 H locs ls hS hl hF
    unfold F_X4_highestUp_s21 at hF
    refine lv_iload_n hx hb dX4_highestUp_21 rfl (lv_at hl 2 rfl) ?_
    refine lv_if_le (tgt := 55) hx hb dX4_highestUp_22 (by decide) (fun c_1 => ?_) (fun c_1 => ?_)
    · replace hF := ifp hF c_1
      refine lv_iconst (v := (-1)) hx hb dX4_highestUp_55 (by decide) ?_
      have e9_0 := Option.some.inj hF
      subst e9_0
      exact kret _ _ _ _ hS dX4_highestUp_56
    · replace hF := ifn hF c_1
      refine lv_iload_n hx hb dX4_highestUp_25 rfl (lv_at hl 1 rfl) ?_
      refine lv_aload_n hx hb dX4_highestUp_26 rfl (lv_at hl 0 rfl) ?_
      refine r_get hx hb hts inX4 hown hK hS 0 0 rfl rfl (by decide) q0 rfl dX4_highestUp_27 ?_
      refine r_get hx hb hts inX1 hown hK hS 4 1 rfl rfl (by decide) q2 rfl dX4_highestUp_30 ?_
      refine lv_imul hx hb dX4_highestUp_33 ?_
      refine lv_iload_n hx hb dX4_highestUp_34 rfl (lv_at hl 2 rfl) ?_
      refine lv_iadd hx hb dX4_highestUp_35 ?_
      refine lv_iconst (v := (nI 1)) hx hb dX4_highestUp_36 (by decide) ?_
      refine lv_isub hx hb dX4_highestUp_37 ?_
      refine lv_istore_n (lv' := [(3, .int (((v1 * (r_0_rules 1)) + v2) - (nI 1))), (0, .ref h_0), (1, .int v1), (2, .int v2)]) hx hb dX4_highestUp_38 rfl hl (by decide) rfl (fun ls hl => ?_)
      refine lv_aload_n hx hb dX4_highestUp_39 rfl (lv_at hl 1 rfl) ?_
      refine lv_iload_n hx hb dX4_highestUp_40 rfl (lv_at hl 0 rfl) ?_
      replace hF := cal1_e hF
      obtain ⟨x2, hc3, hF⟩ := hF
      refine kV_i (As := [.int (((v1 * (r_0_rules 1)) + v2) - (nI 1))]) (rest := []) (wr := [(h_0_rules, oX1 r_0_rules)]) (w2 := [(h_0_rules, oX1 r_0_rules), (h_0, oX4 h_0_rules h_0_lies h_0_tops h_0_list T_0), (h_0_lies, eI cI 16 (T_0 1)), (h_0_tops, eI cI 10 (T_0 2)), (h_0_list, eI cI 160 (T_0 3))]) hCF hK (c_X4_isUp l D cI cJ h_0 h_0_lies h_0_tops h_0_list h_0_rules T_0 (((v1 * (r_0_rules 1)) + v2) - (nI 1)) x2 hc3) (cwV 1 hts (TBL_V mw_213 mw_214 mw_215 mw_17 mw_216) rfl rfl rfl pmX4_isUp ⟨Nat.le_of_ble_eq_true rfl, Nat.le_of_ble_eq_true rfl⟩) hS hA [0, 1, 2, 3] [4] rfl rfl rfl rfl (by decide) rfl rfl rfl hl.1 rfl (Nat.le_of_ble_eq_true rfl) ⟨Nat.zero_le _, Nat.zero_le _⟩ dX4_highestUp_41 rfl (fun H locs hS => ?_)
      refine lv_if_eq (tgt := 49) hx hb dX4_highestUp_44 (by decide) (fun c_4 => ?_) (fun c_4 => ?_)
      · replace hF := ifp hF c_4
        refine lv_iinc (v := v2 + (-1)) (lv' := [(2, .int (v2 + (-1))), (3, .int (((v1 * (r_0_rules 1)) + v2) - (nI 1))), (0, .ref h_0), (1, .int v1)]) hx hb dX4_highestUp_49 hl (k := 3) rfl rfl (by decide) rfl (fun ls hl => ?_)
        refine lv_goto (tgt := 21) hx hb dX4_highestUp_52 (by decide) ?_
        exact hK21 v1 (v2 + (-1)) _ _ _ (hS.sub [1, 2, 3, 4, 0] rfl rfl) (lv_sub hl [2, 3, 0] rfl) hF
      · replace hF := ifn hF c_4
        refine lv_iload_n hx hb dX4_highestUp_47 rfl (lv_at hl 0 rfl) ?_
        have e9_0 := Option.some.inj hF
        subst e9_0
        exact kret _ _ _ _ (hS.sub [1, 2, 3, 4, 0] rfl rfl) dX4_highestUp_48
  have L21 : ∀  (n : Nat) (v1 : Int32) (v2 : Int32) (H : Heap) (locs : List Loc) (ls : Array Slot), HS D A H0 [(h_0, oX4 h_0_rules h_0_lies h_0_tops h_0_list T_0), (h_0_lies, eI cI 16 (T_0 1)), (h_0_tops, eI cI 10 (T_0 2)), (h_0_list, eI cI 160 (T_0 3)), (h_0_rules, oX1 r_0_rules)] H locs → lv_has ls 4 [(0, .ref h_0), (1, .int v1), (2, .int v2)] → F_X4_highestUp_L21 T_0 r_0_rules  n v1 v2 = some rv → W p l e ({ frames := 2, cells := 0, slots := 0, locals := 42 } : Room) s m args below meth c H locs 0 0 Q (F0 m 21 ls []) := by
    intro  n
    induction n with
    | zero => intro v1 v2 H locs ls hS hl hF; exact nomatch (show (none : Option (Int32)) = some _ from hF)
    | succ n ih => intro v1 v2 H locs ls hS hl hF; exact S21  _ ih v1 v2 H locs ls hS hl hF
  unfold F_X4_highestUp at hF
  refine lv_iload_n hx hb dX4_highestUp_0 rfl (lv_at hl 1 rfl) ?_
  refine lv_aload_n hx hb dX4_highestUp_1 rfl (lv_at hl 0 rfl) ?_
  refine r_get hx hb hts inX4 hown hK hS 0 0 rfl rfl (by decide) q0 rfl dX4_highestUp_2 ?_
  refine r_get hx hb hts inX1 hown hK hS 4 0 rfl rfl (by decide) q4 rfl dX4_highestUp_5 ?_
  refine lv_icmp_lt (tgt := 13) hx hb dX4_highestUp_8 (by decide) (fun c_5 => ?_) (fun c_5 => ?_)
  · replace hF := ifp hF c_5
    refine lv_aload_n hx hb dX4_highestUp_13 rfl (lv_at hl 0 rfl) ?_
    refine r_get hx hb hts inX4 hown hK hS 0 0 rfl rfl (by decide) q0 rfl dX4_highestUp_14 ?_
    refine r_get hx hb hts inX1 hown hK hS 4 1 rfl rfl (by decide) q2 rfl dX4_highestUp_17 ?_
    refine lv_istore_n (lv' := [(2, .int (r_0_rules 1)), (0, .ref h_0), (1, .int v1)]) hx hb dX4_highestUp_20 rfl hl (by decide) rfl (fun ls hl => ?_)
    exact L21 FU v1 (r_0_rules 1) _ _ _ hS (lv_sub hl [1, 2, 0] rfl) hF
  · replace hF := ifn hF c_5
    refine lv_iconst (v := (-1)) hx hb dX4_highestUp_11 (by decide) ?_
    have e9_0 := Option.some.inj hF
    subst e9_0
    exact kret _ _ _ _ hS dX4_highestUp_12
set_option maxHeartbeats 4000000 in
set_option maxRecDepth 100000 in
theorem c_X4_heightOf (l : Launch) (D : va_G) (cI cJ : ClassId) (h_0 h_0_lies h_0_tops h_0_list g_0_rules : Nat) (T_0 : Nat → Nat → Int32) (v1 : Int32) (rv : Int32) (hF : F_X4_heightOf T_0 v1 = some rv) : CtI l D [(cI, .int), (cJ, .long)] yX4_heightOf wtX4_heightOf ({ frames := 1, cells := 0, slots := 0, locals := 22 } : Room) [.ref h_0, .int v1] [(h_0, oX4 g_0_rules h_0_lies h_0_tops h_0_list T_0), (h_0_lies, eI cI 16 (T_0 1)), (h_0_tops, eI cI 10 (T_0 2)), (h_0_list, eI cI 160 (T_0 3))] [(h_0, oX4 g_0_rules h_0_lies h_0_tops h_0_list T_0), (h_0_lies, eI cI 16 (T_0 1)), (h_0_tops, eI cI 10 (T_0 2)), (h_0_list, eI cI 160 (T_0 3))] rv := by
  refine CtI.of (cc := cX4_heightOf) (maxL := 4) (by decide) rfl (Nat.le_of_ble_eq_true rfl) ?_
  intro p e s m args below meth c A H0 Q ls X hS hl kret
  have hCF := X.1
  obtain ⟨⟨hx, hb, hml, hown, hts⟩, hK, hA⟩ := X
  have hl : lv_has ls 4 [(0, .ref h_0), (1, .int v1)] := hl
  have S8 : ∀ (K8 : Int32 → Int32 → Option (Int32)) (_ : ∀ (v2 : Int32) (v3 : Int32) (H : Heap) (locs : List Loc) (ls : Array Slot), HS D A H0 [(h_0, oX4 g_0_rules h_0_lies h_0_tops h_0_list T_0), (h_0_lies, eI cI 16 (T_0 1)), (h_0_tops, eI cI 10 (T_0 2)), (h_0_list, eI cI 160 (T_0 3))] H locs → lv_has ls 4 [(0, .ref h_0), (2, .int v2), (3, .int v3)] → K8 v2 v3 = some rv → W p l e ({ frames := 1, cells := 0, slots := 0, locals := 22 } : Room) s m args below meth c H locs 0 0 Q (F0 m 8 ls [])) (v2 : Int32) (v3 : Int32) (H : Heap) (locs : List Loc) (ls : Array Slot), HS D A H0 [(h_0, oX4 g_0_rules h_0_lies h_0_tops h_0_list T_0), (h_0_lies, eI cI 16 (T_0 1)), (h_0_tops, eI cI 10 (T_0 2)), (h_0_list, eI cI 160 (T_0 3))] H locs → lv_has ls 4 [(0, .ref h_0), (2, .int v2), (3, .int v3)] → F_X4_heightOf_s8 T_0 K8 v2 v3 = some rv → W p l e ({ frames := 1, cells := 0, slots := 0, locals := 22 } : Room) s m args below meth c H locs 0 0 Q (F0 m 8 ls []) := by
    intro K8 hK8 v2 v3 H locs ls hS hl hF
    unfold F_X4_heightOf_s8 at hF
    refine lv_iload_n hx hb dX4_heightOf_8 rfl (lv_at hl 2 rfl) ?_
    refine lv_iconst (v := (-1)) hx hb dX4_heightOf_9 (by decide) ?_
    refine lv_icmp_eq (tgt := 31) hx hb dX4_heightOf_10 (by decide) (fun c_1 => ?_) (fun c_1 => ?_)
    · replace hF := ifp hF c_1
      refine lv_iload_n hx hb dX4_heightOf_31 rfl (lv_at hl 1 rfl) ?_
      have e9_0 := Option.some.inj hF
      subst e9_0
      exact kret _ _ _ _ hS dX4_heightOf_32
    · replace hF := ifn hF c_1
      refine lv_iload_n hx hb dX4_heightOf_13 rfl (lv_at hl 1 rfl) ?_
      refine lv_bipush (v := (nI 16)) hx hb dX4_heightOf_14 (by decide) ?_
      refine lv_icmp_ge (tgt := 31) hx hb dX4_heightOf_16 (by decide) (fun c_2 => ?_) (fun c_2 => ?_)
      · replace hF := ifp hF c_2
        refine lv_iload_n hx hb dX4_heightOf_31 rfl (lv_at hl 1 rfl) ?_
        have e9_0 := Option.some.inj hF
        subst e9_0
        exact kret _ _ _ _ hS dX4_heightOf_32
      · replace hF := ifn hF c_2
        refine lv_iinc (v := v2 + (nI 1)) (lv' := [(2, .int (v2 + (nI 1))), (0, .ref h_0), (3, .int v3)]) hx hb dX4_heightOf_19 hl (k := 1) rfl rfl (by decide) rfl (fun ls hl => ?_)
        refine lv_aload_n hx hb dX4_heightOf_22 rfl (lv_at hl 1 rfl) ?_
        refine lv_iload_n hx hb dX4_heightOf_23 rfl (lv_at hl 2 rfl) ?_
        replace hF := cal1_e hF
        obtain ⟨x3, hc4, hF⟩ := hF
        refine kV_i (As := [.int v3]) (rest := []) (wr := []) (w2 := [(h_0, oX4 g_0_rules h_0_lies h_0_tops h_0_list T_0), (h_0_lies, eI cI 16 (T_0 1)), (h_0_tops, eI cI 10 (T_0 2)), (h_0_list, eI cI 160 (T_0 3))]) hCF hK (c_X4_under l D cI cJ h_0 h_0_lies h_0_tops h_0_list g_0_rules T_0 v3 x3 hc4) (cwV 1 hts (TBL_V mw_249 mw_250 mw_251 mw_17 mw_252) rfl rfl rfl pmX4_under ⟨Nat.le_of_ble_eq_true rfl, Nat.le_of_ble_eq_true rfl⟩) hS hA [0, 1, 2, 3] [] rfl rfl rfl rfl (by decide) rfl rfl rfl hl.1 rfl (Nat.le_of_ble_eq_true rfl) ⟨Nat.zero_le _, Nat.zero_le _⟩ dX4_heightOf_24 rfl (fun H locs hS => ?_)
        refine lv_istore_n (lv' := [(3, .int x3), (2, .int (v2 + (nI 1))), (0, .ref h_0)]) hx hb dX4_heightOf_27 rfl hl (by decide) rfl (fun ls hl => ?_)
        refine lv_goto (tgt := 8) hx hb dX4_heightOf_28 (by decide) ?_
        exact hK8 (v2 + (nI 1)) x3 _ _ _ hS (lv_sub hl [2, 1, 0] rfl) hF
  have L8 : ∀  (n : Nat) (v2 : Int32) (v3 : Int32) (H : Heap) (locs : List Loc) (ls : Array Slot), HS D A H0 [(h_0, oX4 g_0_rules h_0_lies h_0_tops h_0_list T_0), (h_0_lies, eI cI 16 (T_0 1)), (h_0_tops, eI cI 10 (T_0 2)), (h_0_list, eI cI 160 (T_0 3))] H locs → lv_has ls 4 [(0, .ref h_0), (2, .int v2), (3, .int v3)] → F_X4_heightOf_L8 T_0  n v2 v3 = some rv → W p l e ({ frames := 1, cells := 0, slots := 0, locals := 22 } : Room) s m args below meth c H locs 0 0 Q (F0 m 8 ls []) := by
    intro  n
    induction n with
    | zero => intro v2 v3 H locs ls hS hl hF; exact nomatch (show (none : Option (Int32)) = some _ from hF)
    | succ n ih => intro v2 v3 H locs ls hS hl hF; exact S8  _ ih v2 v3 H locs ls hS hl hF
  unfold F_X4_heightOf at hF
  refine lv_iconst (v := (nI 0)) hx hb dX4_heightOf_0 (by decide) ?_
  refine lv_istore_n (lv' := [(2, .int (nI 0)), (0, .ref h_0), (1, .int v1)]) hx hb dX4_heightOf_1 rfl hl (by decide) rfl (fun ls hl => ?_)
  refine lv_aload_n hx hb dX4_heightOf_2 rfl (lv_at hl 1 rfl) ?_
  refine lv_iload_n hx hb dX4_heightOf_3 rfl (lv_at hl 2 rfl) ?_
  replace hF := cal1_e hF
  obtain ⟨x5, hc6, hF⟩ := hF
  refine kV_i (As := [.int v1]) (rest := []) (wr := []) (w2 := [(h_0, oX4 g_0_rules h_0_lies h_0_tops h_0_list T_0), (h_0_lies, eI cI 16 (T_0 1)), (h_0_tops, eI cI 10 (T_0 2)), (h_0_list, eI cI 160 (T_0 3))]) hCF hK (c_X4_topOf l D cI cJ h_0 h_0_lies h_0_tops h_0_list g_0_rules T_0 v1 x5 hc6) (cwV 1 hts (TBL_V mw_133 mw_134 mw_135 mw_17 mw_136) rfl rfl rfl pmX4_topOf ⟨Nat.le_of_ble_eq_true rfl, Nat.le_of_ble_eq_true rfl⟩) hS hA [0, 1, 2, 3] [] rfl rfl rfl rfl (by decide) rfl rfl rfl hl.1 rfl (Nat.le_of_ble_eq_true rfl) ⟨Nat.zero_le _, Nat.zero_le _⟩ dX4_heightOf_4 rfl (fun H locs hS => ?_)
  refine lv_istore_n (lv' := [(3, .int x5), (2, .int (nI 0)), (0, .ref h_0), (1, .int v1)]) hx hb dX4_heightOf_7 rfl hl (by decide) rfl (fun ls hl => ?_)
  exact L8 FU (nI 0) x5 _ _ _ hS (lv_sub hl [2, 1, 0] rfl) hF
set_option maxHeartbeats 4000000 in
set_option maxRecDepth 100000 in
theorem c_X4_seenInColumn (l : Launch) (D : va_G) (cI cJ : ClassId) (h_0 h_0_lies h_0_tops h_0_list g_0_rules : Nat) (T_0 : Nat → Nat → Int32) (v1 : Int32) (v2 : Int32) (rv : Int32) (hF : F_X4_seenInColumn T_0 v1 v2 = some rv) : CtI l D [(cI, .int), (cJ, .long)] yX4_seenInColumn wtX4_seenInColumn ({ frames := 2, cells := 0, slots := 0, locals := 47 } : Room) [.ref h_0, .int v1, .int v2] [(h_0, oX4 g_0_rules h_0_lies h_0_tops h_0_list T_0), (h_0_lies, eI cI 16 (T_0 1)), (h_0_tops, eI cI 10 (T_0 2)), (h_0_list, eI cI 160 (T_0 3))] [(h_0, oX4 g_0_rules h_0_lies h_0_tops h_0_list T_0), (h_0_lies, eI cI 16 (T_0 1)), (h_0_tops, eI cI 10 (T_0 2)), (h_0_list, eI cI 160 (T_0 3))] rv := by
  refine CtI.of (cc := cX4_seenInColumn) (maxL := 5) (by decide) rfl (Nat.le_of_ble_eq_true rfl) ?_
  intro p e s m args below meth c A H0 Q ls X hS hl kret
  have hCF := X.1
  obtain ⟨⟨hx, hb, hml, hown, hts⟩, hK, hA⟩ := X
  have hl : lv_has ls 5 [(0, .ref h_0), (1, .int v1), (2, .int v2)] := hl
  unfold F_X4_seenInColumn at hF
  refine lv_aload_n hx hb dX4_seenInColumn_0 rfl (lv_at hl 0 rfl) ?_
  refine lv_iload_n hx hb dX4_seenInColumn_1 rfl (lv_at hl 1 rfl) ?_
  replace hF := cal1_e hF
  obtain ⟨x1, hc2, hF⟩ := hF
  refine kV_i (As := [.int v1]) (rest := []) (wr := []) (w2 := [(h_0, oX4 g_0_rules h_0_lies h_0_tops h_0_list T_0), (h_0_lies, eI cI 16 (T_0 1)), (h_0_tops, eI cI 10 (T_0 2)), (h_0_list, eI cI 160 (T_0 3))]) hCF hK (c_X4_heightOf l D cI cJ h_0 h_0_lies h_0_tops h_0_list g_0_rules T_0 v1 x1 hc2) (cwV 1 hts (TBL_V mw_500 mw_501 mw_502 mw_17 mw_503) rfl rfl rfl pmX4_heightOf ⟨Nat.le_of_ble_eq_true rfl, Nat.le_of_ble_eq_true rfl⟩) hS hA [0, 1, 2, 3] [] rfl rfl rfl rfl (by decide) rfl rfl rfl hl.1 rfl (Nat.le_of_ble_eq_true rfl) ⟨Nat.zero_le _, Nat.zero_le _⟩ dX4_seenInColumn_2 rfl (fun H locs hS => ?_)
  refine lv_istore_n (lv' := [(3, .int x1), (0, .ref h_0), (1, .int v1), (2, .int v2)]) hx hb dX4_seenInColumn_5 rfl hl (by decide) rfl (fun ls hl => ?_)
  refine lv_iload_n hx hb dX4_seenInColumn_6 rfl (lv_at hl 3 rfl) ?_
  refine lv_iload_n hx hb dX4_seenInColumn_7 rfl (lv_at hl 0 rfl) ?_
  refine lv_icmp_lt (tgt := 13) hx hb dX4_seenInColumn_8 (by decide) (fun c_3 => ?_) (fun c_3 => ?_)
  · replace hF := ifp hF c_3
    refine lv_aload_n hx hb dX4_seenInColumn_13 rfl (lv_at hl 1 rfl) ?_
    refine lv_iload_n hx hb dX4_seenInColumn_14 rfl (lv_at hl 2 rfl) ?_
    refine lv_iload_n hx hb dX4_seenInColumn_15 rfl (lv_at hl 0 rfl) ?_
    refine lv_iconst (v := (nI 1)) hx hb dX4_seenInColumn_16 (by decide) ?_
    refine lv_isub hx hb dX4_seenInColumn_17 ?_
    refine lv_iload_n hx hb dX4_seenInColumn_18 rfl (lv_at hl 3 rfl) ?_
    refine lv_isub hx hb dX4_seenInColumn_19 ?_
    replace hF := cal1_e hF
    obtain ⟨x4, hc5, hF⟩ := hF
    refine kV_i (As := [.int v1, .int ((x1 - (nI 1)) - v2)]) (rest := []) (wr := []) (w2 := [(h_0, oX4 g_0_rules h_0_lies h_0_tops h_0_list T_0), (h_0_lies, eI cI 16 (T_0 1)), (h_0_tops, eI cI 10 (T_0 2)), (h_0_list, eI cI 160 (T_0 3))]) hCF hK (c_X4_fromTop l D cI cJ h_0 h_0_lies h_0_tops h_0_list g_0_rules T_0 v1 ((x1 - (nI 1)) - v2) x4 hc5) (cwV 2 hts (TBL_V mw_290 mw_291 mw_292 mw_17 mw_293) rfl rfl rfl pmX4_fromTop ⟨Nat.le_of_ble_eq_true rfl, Nat.le_of_ble_eq_true rfl⟩) hS hA [0, 1, 2, 3] [] rfl rfl rfl rfl (by decide) rfl rfl rfl hl.1 rfl (Nat.le_of_ble_eq_true rfl) ⟨Nat.zero_le _, Nat.zero_le _⟩ dX4_seenInColumn_20 rfl (fun H locs hS => ?_)
    refine lv_istore (lv' := [(4, .int x4), (3, .int x1), (0, .ref h_0), (1, .int v1), (2, .int v2)]) hx hb dX4_seenInColumn_23 hl (by decide) rfl (fun ls hl => ?_)
    refine lv_aload_n hx hb dX4_seenInColumn_25 rfl (lv_at hl 2 rfl) ?_
    refine lv_iload hx hb dX4_seenInColumn_26 (lv_at hl 0 rfl) ?_
    replace hF := cal1_e hF
    obtain ⟨x6, hc7, hF⟩ := hF
    refine kV_i (As := [.int x4]) (rest := []) (wr := []) (w2 := [(h_0, oX4 g_0_rules h_0_lies h_0_tops h_0_list T_0), (h_0_lies, eI cI 16 (T_0 1)), (h_0_tops, eI cI 10 (T_0 2)), (h_0_list, eI cI 160 (T_0 3))]) hCF hK (c_X4_liesHidden l D cI cJ h_0 h_0_lies h_0_tops h_0_list g_0_rules T_0 x4 x6 hc7) (cwV 1 hts (TBL_V mw_253 mw_254 mw_255 mw_17 mw_256) rfl rfl rfl pmX4_liesHidden ⟨Nat.le_of_ble_eq_true rfl, Nat.le_of_ble_eq_true rfl⟩) hS hA [0, 1, 2, 3] [] rfl rfl rfl rfl (by decide) rfl rfl rfl hl.1 rfl (Nat.le_of_ble_eq_true rfl) ⟨Nat.zero_le _, Nat.zero_le _⟩ dX4_seenInColumn_28 rfl (fun H locs hS => ?_)
    refine lv_if_eq (tgt := 39) hx hb dX4_seenInColumn_31 (by decide) (fun c_8 => ?_) (fun c_8 => ?_)
    · replace hF := ifp hF c_8
      refine lv_iload hx hb dX4_seenInColumn_39 (lv_at hl 0 rfl) ?_
      have e9_0 := Option.some.inj hF
      subst e9_0
      exact kret _ _ _ _ hS dX4_seenInColumn_41
    · replace hF := ifn hF c_8
      refine lv_bipush (v := (-2)) hx hb dX4_seenInColumn_34 (by decide) ?_
      refine lv_goto (tgt := 41) hx hb dX4_seenInColumn_36 (by decide) ?_
      have e9_0 := Option.some.inj hF
      subst e9_0
      exact kret _ _ _ _ hS dX4_seenInColumn_41
  · replace hF := ifn hF c_3
    refine lv_iconst (v := (-1)) hx hb dX4_seenInColumn_11 (by decide) ?_
    have e9_0 := Option.some.inj hF
    subst e9_0
    exact kret _ _ _ _ hS dX4_seenInColumn_12
