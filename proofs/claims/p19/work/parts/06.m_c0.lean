set_option maxHeartbeats 4000000 in
set_option maxRecDepth 100000 in
theorem c_X3_isRow (l : Launch) (D : va_G) (cI cJ : ClassId) (h_0 h_0_lows h_0_highs h_0_places : Nat) (n_0 : Nat) (S_0 : Nat → Nat → Int64) (v1 : Int32) (rv : Int32) (hF : F_X3_isRow S_0 n_0 v1 = some rv) : CtI l D [(cI, .int), (cJ, .long)] yX3_isRow wtX3_isRow ({ frames := 0, cells := 0, slots := 0, locals := 0 } : Room) [.ref h_0, .int v1] [(h_0, oX3 h_0_lows h_0_highs h_0_places), (h_0_lows, eJ cJ n_0 (S_0 0)), (h_0_highs, eJ cJ n_0 (S_0 1)), (h_0_places, eJ cJ n_0 (S_0 2))] [(h_0, oX3 h_0_lows h_0_highs h_0_places), (h_0_lows, eJ cJ n_0 (S_0 0)), (h_0_highs, eJ cJ n_0 (S_0 1)), (h_0_places, eJ cJ n_0 (S_0 2))] rv := by
  refine CtZ.of (cc := cX3_isRow) (maxL := 2) (by decide) rfl (Nat.le_of_ble_eq_true rfl) ?_
  intro p e s m args below meth c A H0 Q ls X hS hl kret
  have hCF := X.1
  obtain ⟨⟨hx, hb, hml, hown, hts⟩, hK, hA⟩ := X
  have hl : lv_has ls 2 [(0, .ref h_0), (1, .int v1)] := hl
  have q0 := hts (.fieldLink RX3 15 "Patiencery$Shelf" "lows" "[J") (List.mem_cons_of_mem _ mw_68)
  have inX3 : ∀ w ∈ u_ws RX3 TX3 3, w ∈ wtX3_isRow := fun w h => List.mem_cons_of_mem _ (inlX3 w h)
  have q2 := hts (.fieldLink RX3 21 "Patiencery$Shelf" "highs" "[J") (List.mem_cons_of_mem _ mw_69)
  have q3 := hts (.fieldLink RX3 24 "Patiencery$Shelf" "places" "[J") (List.mem_cons_of_mem _ mw_70)
  unfold F_X3_isRow at hF
  refine lv_iload_n hx hb dX3_isRow_0 rfl (lv_at hl 1 rfl) ?_
  refine lv_if_lt (tgt := 35) hx hb dX3_isRow_1 (by decide) (fun c_1 => ?_) (fun c_1 => ?_)
  · replace hF := ifp hF c_1
    refine lv_iconst (v := (nI 0)) hx hb dX3_isRow_35 (by decide) ?_
    replace hF := zb_e hF
    obtain ⟨h01_2, hF⟩ := hF
    have e9_0 := Option.some.inj hF
    subst e9_0
    exact kret _ _ _ _ h01_2 hS dX3_isRow_36
  · replace hF := ifn hF c_1
    refine lv_iload_n hx hb dX3_isRow_4 rfl (lv_at hl 1 rfl) ?_
    refine lv_aload_n hx hb dX3_isRow_5 rfl (lv_at hl 0 rfl) ?_
    refine r_get hx hb hts inX3 hown hK hS 0 0 rfl rfl (by decide) q0 rfl dX3_isRow_6 ?_
    refine r_alenJ hx hb hK hS 1 rfl rfl dX3_isRow_9 ?_
    refine lv_icmp_ge (tgt := 35) hx hb dX3_isRow_10 (by decide) (fun c_3 => ?_) (fun c_3 => ?_)
    · replace hF := ifp hF c_3
      refine lv_iconst (v := (nI 0)) hx hb dX3_isRow_35 (by decide) ?_
      replace hF := zb_e hF
      obtain ⟨h01_4, hF⟩ := hF
      have e9_0 := Option.some.inj hF
      subst e9_0
      exact kret _ _ _ _ h01_4 hS dX3_isRow_36
    · replace hF := ifn hF c_3
      refine lv_iload_n hx hb dX3_isRow_13 rfl (lv_at hl 1 rfl) ?_
      refine lv_aload_n hx hb dX3_isRow_14 rfl (lv_at hl 0 rfl) ?_
      refine r_get hx hb hts inX3 hown hK hS 0 1 rfl rfl (by decide) q2 rfl dX3_isRow_15 ?_
      refine r_alenJ hx hb hK hS 2 rfl rfl dX3_isRow_18 ?_
      refine lv_icmp_ge (tgt := 35) hx hb dX3_isRow_19 (by decide) (fun c_5 => ?_) (fun c_5 => ?_)
      · replace hF := ifp hF c_5
        refine lv_iconst (v := (nI 0)) hx hb dX3_isRow_35 (by decide) ?_
        replace hF := zb_e hF
        obtain ⟨h01_6, hF⟩ := hF
        have e9_0 := Option.some.inj hF
        subst e9_0
        exact kret _ _ _ _ h01_6 hS dX3_isRow_36
      · replace hF := ifn hF c_5
        refine lv_iload_n hx hb dX3_isRow_22 rfl (lv_at hl 1 rfl) ?_
        refine lv_aload_n hx hb dX3_isRow_23 rfl (lv_at hl 0 rfl) ?_
        refine r_get hx hb hts inX3 hown hK hS 0 2 rfl rfl (by decide) q3 rfl dX3_isRow_24 ?_
        refine r_alenJ hx hb hK hS 3 rfl rfl dX3_isRow_27 ?_
        refine lv_icmp_ge (tgt := 35) hx hb dX3_isRow_28 (by decide) (fun c_7 => ?_) (fun c_7 => ?_)
        · replace hF := ifp hF c_7
          refine lv_iconst (v := (nI 0)) hx hb dX3_isRow_35 (by decide) ?_
          replace hF := zb_e hF
          obtain ⟨h01_8, hF⟩ := hF
          have e9_0 := Option.some.inj hF
          subst e9_0
          exact kret _ _ _ _ h01_8 hS dX3_isRow_36
        · replace hF := ifn hF c_7
          refine lv_iconst (v := (nI 1)) hx hb dX3_isRow_31 (by decide) ?_
          refine lv_goto (tgt := 36) hx hb dX3_isRow_32 (by decide) ?_
          replace hF := zb_e hF
          obtain ⟨h01_9, hF⟩ := hF
          have e9_0 := Option.some.inj hF
          subst e9_0
          exact kret _ _ _ _ h01_9 hS dX3_isRow_36
set_option maxHeartbeats 4000000 in
set_option maxRecDepth 100000 in
theorem c_X3_keep (l : Launch) (D : va_G) (cI cJ : ClassId) (h_0 h_0_lows h_0_highs h_0_places h_2 h_2_lies h_2_tops h_2_list g_2_rules : Nat) (n_0 : Nat) (T_2 : Nat → Nat → Int32) (S_0 : Nat → Nat → Int64) (v1 : Int32) (r_S_0 : Nat → Nat → Int64) (hF : F_X3_keep T_2 n_0 S_0 v1 = some r_S_0) : CtV l D [(cI, .int), (cJ, .long)] yX3_keep wtX3_keep ({ frames := 2, cells := 0, slots := 0, locals := 47 } : Room) [.ref h_0, .int v1, .ref h_2] [(h_0, oX3 h_0_lows h_0_highs h_0_places), (h_0_lows, eJ cJ n_0 (S_0 0)), (h_0_highs, eJ cJ n_0 (S_0 1)), (h_0_places, eJ cJ n_0 (S_0 2)), (h_2, oX4 g_2_rules h_2_lies h_2_tops h_2_list T_2), (h_2_lies, eI cI 16 (T_2 1)), (h_2_tops, eI cI 10 (T_2 2)), (h_2_list, eI cI 160 (T_2 3))] [(h_0, oX3 h_0_lows h_0_highs h_0_places), (h_0_lows, eJ cJ n_0 (r_S_0 0)), (h_0_highs, eJ cJ n_0 (r_S_0 1)), (h_0_places, eJ cJ n_0 (r_S_0 2)), (h_2, oX4 g_2_rules h_2_lies h_2_tops h_2_list T_2), (h_2_lies, eI cI 16 (T_2 1)), (h_2_tops, eI cI 10 (T_2 2)), (h_2_list, eI cI 160 (T_2 3))] := by
  refine CtV.of (cc := cX3_keep) (maxL := 3) (by decide) rfl (Nat.le_of_ble_eq_true rfl) ?_
  intro p e s m args below meth c A H0 Q ls X hS hl kret
  have hCF := X.1
  obtain ⟨⟨hx, hb, hml, hown, hts⟩, hK, hA⟩ := X
  have hl : lv_has ls 3 [(0, .ref h_0), (1, .int v1), (2, .ref h_2)] := hl
  have q0 := hts (.fieldLink RX3 15 "Patiencery$Shelf" "lows" "[J") (List.mem_cons_of_mem _ mw_68)
  have inX3 : ∀ w ∈ u_ws RX3 TX3 3, w ∈ wtX3_keep := fun w h => List.mem_cons_of_mem _ (inlX3 w h)
  have q2 := hts (.fieldLink RX3 31 "Patiencery$Table" "hidden" "I") (List.mem_cons_of_mem _ mw_335)
  have inX4 : ∀ w ∈ u_ws RX4 TX4 7, w ∈ wtX3_keep := fun w h => List.mem_cons_of_mem _ (inlX4 w h)
  have q4 := hts (.fieldLink RX3 21 "Patiencery$Shelf" "highs" "[J") (List.mem_cons_of_mem _ mw_69)
  have q5 := hts (.fieldLink RX3 41 "Patiencery$Table" "turned" "I") (List.mem_cons_of_mem _ mw_336)
  have q6 := hts (.fieldLink RX3 24 "Patiencery$Shelf" "places" "[J") (List.mem_cons_of_mem _ mw_70)
  unfold F_X3_keep at hF
  refine lv_aload_n hx hb dX3_keep_0 rfl (lv_at hl 0 rfl) ?_
  refine lv_iload_n hx hb dX3_keep_1 rfl (lv_at hl 1 rfl) ?_
  replace hF := cal1_e hF
  obtain ⟨x1, hc2, hF⟩ := hF
  refine kV_i (As := [.int v1]) (rest := []) (wr := [(h_2, oX4 g_2_rules h_2_lies h_2_tops h_2_list T_2), (h_2_lies, eI cI 16 (T_2 1)), (h_2_tops, eI cI 10 (T_2 2)), (h_2_list, eI cI 160 (T_2 3))]) (w2 := [(h_2, oX4 g_2_rules h_2_lies h_2_tops h_2_list T_2), (h_2_lies, eI cI 16 (T_2 1)), (h_2_tops, eI cI 10 (T_2 2)), (h_2_list, eI cI 160 (T_2 3)), (h_0, oX3 h_0_lows h_0_highs h_0_places), (h_0_lows, eJ cJ n_0 (S_0 0)), (h_0_highs, eJ cJ n_0 (S_0 1)), (h_0_places, eJ cJ n_0 (S_0 2))]) hCF hK (c_X3_isRow l D cI cJ h_0 h_0_lows h_0_highs h_0_places n_0 S_0 v1 x1 hc2) (cwV 1 hts (TBL_V mw_337 mw_338 mw_339 mw_21 mw_340) rfl rfl rfl pmX3_isRow ⟨Nat.le_of_ble_eq_true rfl, Nat.le_of_ble_eq_true rfl⟩) hS hA [0, 1, 2, 3] [4, 5, 6, 7] rfl rfl rfl rfl (by decide) rfl rfl rfl hl.1 rfl (Nat.le_of_ble_eq_true rfl) ⟨Nat.zero_le _, Nat.zero_le _⟩ dX3_keep_2 rfl (fun H locs hS => ?_)
  refine lv_if_ne (tgt := 9) hx hb dX3_keep_5 (by decide) (fun c_3 => ?_) (fun c_3 => ?_)
  · replace hF := ifn hF c_3
    refine lv_aload_n hx hb dX3_keep_9 rfl (lv_at hl 0 rfl) ?_
    refine r_get hx hb hts inX3 hown hK hS 4 0 rfl rfl (by decide) q0 rfl dX3_keep_10 ?_
    refine lv_iload_n hx hb dX3_keep_13 rfl (lv_at hl 1 rfl) ?_
    refine lv_aload_n hx hb dX3_keep_14 rfl (lv_at hl 2 rfl) ?_
    refine lv_aload_n hx hb dX3_keep_15 rfl (lv_at hl 2 rfl) ?_
    refine r_get hx hb hts inX4 hown hK hS 0 5 rfl rfl (by decide) q2 rfl dX3_keep_16 ?_
    refine lv_iconst (v := (nI 0)) hx hb dX3_keep_19 (by decide) ?_
    refine lv_bipush (v := (nI 8)) hx hb dX3_keep_20 (by decide) ?_
    replace hF := cal1_e hF
    obtain ⟨x4, hc5, hF⟩ := hF
    refine kV_l (As := [.int (T_2 0 5), .int (nI 0), .int (nI 8)]) (rest := [.int v1, .ref h_0_lows]) (wr := [(h_0, oX3 h_0_lows h_0_highs h_0_places), (h_0_lows, eJ cJ n_0 (S_0 0)), (h_0_highs, eJ cJ n_0 (S_0 1)), (h_0_places, eJ cJ n_0 (S_0 2))]) (w2 := [(h_0, oX3 h_0_lows h_0_highs h_0_places), (h_0_lows, eJ cJ n_0 (S_0 0)), (h_0_highs, eJ cJ n_0 (S_0 1)), (h_0_places, eJ cJ n_0 (S_0 2)), (h_2, oX4 g_2_rules h_2_lies h_2_tops h_2_list T_2), (h_2_lies, eI cI 16 (T_2 1)), (h_2_tops, eI cI 10 (T_2 2)), (h_2_list, eI cI 160 (T_2 3))]) hCF hK (c_X4_packed l D cI cJ h_2 h_2_lies h_2_tops h_2_list g_2_rules T_2 (T_2 0 5) (nI 0) (nI 8) x4 hc5) (cwV 3 hts (TBL_V mw_341 mw_342 mw_343 mw_17 mw_344) rfl rfl rfl pmX4_packed ⟨Nat.le_of_ble_eq_true rfl, Nat.le_of_ble_eq_true rfl⟩) hS hA [0, 1, 2, 3] [4, 5, 6, 7] rfl rfl rfl rfl (by decide) rfl rfl rfl hl.1 rfl (Nat.le_of_ble_eq_true rfl) ⟨Nat.zero_le _, Nat.zero_le _⟩ dX3_keep_22 rfl (fun H locs hS => ?_)
    replace hF := wrJ_e hF
    obtain ⟨hi7, S_0u6, eS_0u6, hF⟩ := hF
    refine r_last (w2 := [(h_0, oX3 h_0_lows h_0_highs h_0_places), (h_0_lows, eJ cJ n_0 (S_0u6 0)), (h_0_highs, eJ cJ n_0 (S_0u6 1)), (h_0_places, eJ cJ n_0 (S_0u6 2)), (h_2, oX4 g_2_rules h_2_lies h_2_tops h_2_list T_2), (h_2_lies, eI cI 16 (T_2 1)), (h_2_tops, eI cI 10 (T_2 2)), (h_2_list, eI cI 160 (T_2 3))]) hx hb hK hS 1 rfl rfl hi7 dX3_keep_25 (by rw [eS_0u6]; rfl) (fun H locs hS => ?_)
    refine lv_aload_n hx hb dX3_keep_26 rfl (lv_at hl 0 rfl) ?_
    refine r_get hx hb hts inX3 hown hK hS 0 1 rfl rfl (by decide) q4 rfl dX3_keep_27 ?_
    refine lv_iload_n hx hb dX3_keep_30 rfl (lv_at hl 1 rfl) ?_
    refine lv_aload_n hx hb dX3_keep_31 rfl (lv_at hl 2 rfl) ?_
    refine lv_aload_n hx hb dX3_keep_32 rfl (lv_at hl 2 rfl) ?_
    refine r_get hx hb hts inX4 hown hK hS 4 6 rfl rfl (by decide) q5 rfl dX3_keep_33 ?_
    refine lv_bipush (v := (nI 8)) hx hb dX3_keep_36 (by decide) ?_
    refine lv_bipush (v := (nI 16)) hx hb dX3_keep_38 (by decide) ?_
    replace hF := cal1_e hF
    obtain ⟨x8, hc9, hF⟩ := hF
    refine kV_l (As := [.int (T_2 0 6), .int (nI 8), .int (nI 16)]) (rest := [.int v1, .ref h_0_highs]) (wr := [(h_0, oX3 h_0_lows h_0_highs h_0_places), (h_0_lows, eJ cJ n_0 (S_0u6 0)), (h_0_highs, eJ cJ n_0 (S_0u6 1)), (h_0_places, eJ cJ n_0 (S_0u6 2))]) (w2 := [(h_0, oX3 h_0_lows h_0_highs h_0_places), (h_0_lows, eJ cJ n_0 (S_0u6 0)), (h_0_highs, eJ cJ n_0 (S_0u6 1)), (h_0_places, eJ cJ n_0 (S_0u6 2)), (h_2, oX4 g_2_rules h_2_lies h_2_tops h_2_list T_2), (h_2_lies, eI cI 16 (T_2 1)), (h_2_tops, eI cI 10 (T_2 2)), (h_2_list, eI cI 160 (T_2 3))]) hCF hK (c_X4_packed l D cI cJ h_2 h_2_lies h_2_tops h_2_list g_2_rules T_2 (T_2 0 6) (nI 8) (nI 16) x8 hc9) (cwV 3 hts (TBL_V mw_341 mw_342 mw_343 mw_17 mw_344) rfl rfl rfl pmX4_packed ⟨Nat.le_of_ble_eq_true rfl, Nat.le_of_ble_eq_true rfl⟩) hS hA [4, 5, 6, 7] [0, 1, 2, 3] rfl rfl rfl rfl (by decide) rfl rfl rfl hl.1 rfl (Nat.le_of_ble_eq_true rfl) ⟨Nat.zero_le _, Nat.zero_le _⟩ dX3_keep_40 rfl (fun H locs hS => ?_)
    replace hF := wrJ_e hF
    obtain ⟨hi11, S_0u10, eS_0u10, hF⟩ := hF
    refine r_last (w2 := [(h_0, oX3 h_0_lows h_0_highs h_0_places), (h_0_lows, eJ cJ n_0 (S_0u10 0)), (h_0_highs, eJ cJ n_0 (S_0u10 1)), (h_0_places, eJ cJ n_0 (S_0u10 2)), (h_2, oX4 g_2_rules h_2_lies h_2_tops h_2_list T_2), (h_2_lies, eI cI 16 (T_2 1)), (h_2_tops, eI cI 10 (T_2 2)), (h_2_list, eI cI 160 (T_2 3))]) hx hb hK hS 2 rfl rfl hi11 dX3_keep_43 (by rw [eS_0u10]; rfl) (fun H locs hS => ?_)
    refine lv_aload_n hx hb dX3_keep_44 rfl (lv_at hl 0 rfl) ?_
    refine r_get hx hb hts inX3 hown hK hS 0 2 rfl rfl (by decide) q6 rfl dX3_keep_45 ?_
    refine lv_iload_n hx hb dX3_keep_48 rfl (lv_at hl 1 rfl) ?_
    refine lv_aload_n hx hb dX3_keep_49 rfl (lv_at hl 2 rfl) ?_
    replace hF := cal1_e hF
    obtain ⟨x12, hc13, hF⟩ := hF
    refine kV_l (As := []) (rest := [.int v1, .ref h_0_places]) (wr := [(h_0, oX3 h_0_lows h_0_highs h_0_places), (h_0_lows, eJ cJ n_0 (S_0u10 0)), (h_0_highs, eJ cJ n_0 (S_0u10 1)), (h_0_places, eJ cJ n_0 (S_0u10 2))]) (w2 := [(h_0, oX3 h_0_lows h_0_highs h_0_places), (h_0_lows, eJ cJ n_0 (S_0u10 0)), (h_0_highs, eJ cJ n_0 (S_0u10 1)), (h_0_places, eJ cJ n_0 (S_0u10 2)), (h_2, oX4 g_2_rules h_2_lies h_2_tops h_2_list T_2), (h_2_lies, eI cI 16 (T_2 1)), (h_2_tops, eI cI 10 (T_2 2)), (h_2_list, eI cI 160 (T_2 3))]) hCF hK (c_X4_packedTops l D cI cJ h_2 h_2_lies h_2_tops h_2_list g_2_rules T_2 x12 hc13) (cwV 0 hts (TBL_V mw_346 mw_347 mw_348 mw_17 mw_349) rfl rfl rfl pmX4_packedTops ⟨Nat.le_of_ble_eq_true rfl, Nat.le_of_ble_eq_true rfl⟩) hS hA [4, 5, 6, 7] [0, 1, 2, 3] rfl rfl rfl rfl (by decide) rfl rfl rfl hl.1 rfl (Nat.le_of_ble_eq_true rfl) ⟨Nat.zero_le _, Nat.zero_le _⟩ dX3_keep_50 rfl (fun H locs hS => ?_)
    replace hF := wrJ_e hF
    obtain ⟨hi15, S_0u14, eS_0u14, hF⟩ := hF
    refine r_last (w2 := [(h_0, oX3 h_0_lows h_0_highs h_0_places), (h_0_lows, eJ cJ n_0 (S_0u14 0)), (h_0_highs, eJ cJ n_0 (S_0u14 1)), (h_0_places, eJ cJ n_0 (S_0u14 2)), (h_2, oX4 g_2_rules h_2_lies h_2_tops h_2_list T_2), (h_2_lies, eI cI 16 (T_2 1)), (h_2_tops, eI cI 10 (T_2 2)), (h_2_list, eI cI 160 (T_2 3))]) hx hb hK hS 3 rfl rfl hi15 dX3_keep_53 (by rw [eS_0u14]; rfl) (fun H locs hS => ?_)
    have e9_0 := Option.some.inj hF
    subst e9_0
    exact kret _ _ _ _ hS dX3_keep_54
  · replace hF := ifp hF c_3
    have e9_0 := Option.some.inj hF
    subst e9_0
    exact kret _ _ _ _ (hS.sub [4, 5, 6, 7, 0, 1, 2, 3] rfl rfl) dX3_keep_8
set_option maxHeartbeats 4000000 in
set_option maxRecDepth 100000 in
theorem c_X5_doMove (l : Launch) (D : va_G) (cI cJ : ClassId) (h_0 h_0_past h_0_past_lows h_0_past_highs h_0_past_places h_0_now h_0_now_lies h_0_now_tops h_0_now_list g_0_nextRules g_0_rules g_0_searcher g_0_dealt g_0_tried g_0_now_rules : Nat) (P_0 : Nat → Int32) (S_0_past : Nat → Nat → Int64) (T_0_now : Nat → Nat → Int32) (v1 : Int32) (v2 : Int32) (v3 : Int32) (r_P_0 : Nat → Int32) (r_S_0_past : Nat → Nat → Int64) (r_T_0_now : Nat → Nat → Int32) (hF : F_X5_doMove P_0 S_0_past T_0_now v1 v2 v3 = some (r_P_0, r_S_0_past, r_T_0_now)) : CtV l D [(cI, .int), (cJ, .long)] yX5_doMove wtX5_doMove ({ frames := 5, cells := 0, slots := 0, locals := 116 } : Room) [.ref h_0, .int v1, .int v2, .int v3] [(h_0, oX5 g_0_nextRules g_0_rules h_0_now h_0_past g_0_searcher g_0_dealt g_0_tried P_0), (h_0_past, oX3 h_0_past_lows h_0_past_highs h_0_past_places), (h_0_past_lows, eJ cJ 200 (S_0_past 0)), (h_0_past_highs, eJ cJ 200 (S_0_past 1)), (h_0_past_places, eJ cJ 200 (S_0_past 2)), (h_0_now, oX4 g_0_now_rules h_0_now_lies h_0_now_tops h_0_now_list T_0_now), (h_0_now_lies, eI cI 16 (T_0_now 1)), (h_0_now_tops, eI cI 10 (T_0_now 2)), (h_0_now_list, eI cI 160 (T_0_now 3))] [(h_0, oX5 g_0_nextRules g_0_rules h_0_now h_0_past g_0_searcher g_0_dealt g_0_tried r_P_0), (h_0_past, oX3 h_0_past_lows h_0_past_highs h_0_past_places), (h_0_past_lows, eJ cJ 200 (r_S_0_past 0)), (h_0_past_highs, eJ cJ 200 (r_S_0_past 1)), (h_0_past_places, eJ cJ 200 (r_S_0_past 2)), (h_0_now, oX4 g_0_now_rules h_0_now_lies h_0_now_tops h_0_now_list r_T_0_now), (h_0_now_lies, eI cI 16 (r_T_0_now 1)), (h_0_now_tops, eI cI 10 (r_T_0_now 2)), (h_0_now_list, eI cI 160 (r_T_0_now 3))] := by
  refine CtV.of (cc := cX5_doMove) (maxL := 4) (by decide) rfl (Nat.le_of_ble_eq_true rfl) ?_
  intro p e s m args below meth c A H0 Q ls X hS hl kret
  have hCF := X.1
  obtain ⟨⟨hx, hb, hml, hown, hts⟩, hK, hA⟩ := X
  have hl : lv_has ls 4 [(0, .ref h_0), (1, .int v1), (2, .int v2), (3, .int v3)] := hl
  have q0 := hts (.fieldLink RX5 31 "Patiencery" "past" "LPatiencery$Shelf;") (List.mem_cons_of_mem _ mw_22)
  have inX5 : ∀ w ∈ u_ws RX5 TX5 10, w ∈ wtX5_doMove := fun w h => List.mem_cons_of_mem _ (inlX5 w h)
  have q2 := hts (.fieldLink RX5 52 "Patiencery" "done" "I") (List.mem_cons_of_mem _ mw_32)
  have q3 := hts (.fieldLink RX5 22 "Patiencery" "now" "LPatiencery$Table;") (List.mem_cons_of_mem _ mw_18)
  unfold F_X5_doMove at hF
  refine lv_aload_n hx hb dX5_doMove_0 rfl (lv_at hl 0 rfl) ?_
  refine r_get hx hb hts inX5 hown hK hS 0 3 rfl rfl (by decide) q0 rfl dX5_doMove_1 ?_
  refine lv_aload_n hx hb dX5_doMove_4 rfl (lv_at hl 0 rfl) ?_
  refine r_get hx hb hts inX5 hown hK hS 0 7 rfl rfl (by decide) q2 rfl dX5_doMove_5 ?_
  refine lv_aload_n hx hb dX5_doMove_8 rfl (lv_at hl 0 rfl) ?_
  refine r_get hx hb hts inX5 hown hK hS 0 2 rfl rfl (by decide) q3 rfl dX5_doMove_9 ?_
  replace hF := cal1_e hF
  obtain ⟨S_0_pastu1, hc2, hF⟩ := hF
  refine kV_v (As := [.int (P_0 7), .ref h_0_now]) (rest := []) (wr := [(h_0, oX5 g_0_nextRules g_0_rules h_0_now h_0_past g_0_searcher g_0_dealt g_0_tried P_0)]) (w2 := [(h_0, oX5 g_0_nextRules g_0_rules h_0_now h_0_past g_0_searcher g_0_dealt g_0_tried P_0), (h_0_past, oX3 h_0_past_lows h_0_past_highs h_0_past_places), (h_0_past_lows, eJ cJ 200 (S_0_pastu1 0)), (h_0_past_highs, eJ cJ 200 (S_0_pastu1 1)), (h_0_past_places, eJ cJ 200 (S_0_pastu1 2)), (h_0_now, oX4 g_0_now_rules h_0_now_lies h_0_now_tops h_0_now_list T_0_now), (h_0_now_lies, eI cI 16 (T_0_now 1)), (h_0_now_tops, eI cI 10 (T_0_now 2)), (h_0_now_list, eI cI 160 (T_0_now 3))]) hCF hK (c_X3_keep l D cI cJ h_0_past h_0_past_lows h_0_past_highs h_0_past_places h_0_now h_0_now_lies h_0_now_tops h_0_now_list g_0_now_rules 200 T_0_now S_0_past (P_0 7) S_0_pastu1 hc2) (cwV 2 hts (TBL_V mw_331 mw_332 mw_333 mw_21 mw_334) rfl rfl rfl pmX3_keep ⟨Nat.le_of_ble_eq_true rfl, Nat.le_of_ble_eq_true rfl⟩) hS hA [1, 2, 3, 4, 5, 6, 7, 8] [0] rfl rfl rfl rfl (by decide) rfl rfl rfl hl.1 rfl (Nat.le_of_ble_eq_true rfl) ⟨Nat.zero_le _, Nat.zero_le _⟩ dX5_doMove_12 rfl (fun H locs hS => ?_)
  refine lv_aload_n hx hb dX5_doMove_15 rfl (lv_at hl 0 rfl) ?_
  refine r_get hx hb hts inX5 hown hK hS 0 2 rfl rfl (by decide) q3 rfl dX5_doMove_16 ?_
  refine lv_iload_n hx hb dX5_doMove_19 rfl (lv_at hl 1 rfl) ?_
  refine lv_iload_n hx hb dX5_doMove_20 rfl (lv_at hl 2 rfl) ?_
  refine lv_iload_n hx hb dX5_doMove_21 rfl (lv_at hl 3 rfl) ?_
  replace hF := cal1_e hF
  obtain ⟨x3, hc4, hF⟩ := hF
  refine kS_i (As := [.int v1, .int v2, .int v3]) (rest := [.ref h_0_now]) (wr := [(h_0, oX5 g_0_nextRules g_0_rules h_0_now h_0_past g_0_searcher g_0_dealt g_0_tried P_0), (h_0_past, oX3 h_0_past_lows h_0_past_highs h_0_past_places), (h_0_past_lows, eJ cJ 200 (S_0_pastu1 0)), (h_0_past_highs, eJ cJ 200 (S_0_pastu1 1)), (h_0_past_places, eJ cJ 200 (S_0_pastu1 2)), (h_0_now, oX4 g_0_now_rules h_0_now_lies h_0_now_tops h_0_now_list T_0_now), (h_0_now_lies, eI cI 16 (T_0_now 1)), (h_0_now_tops, eI cI 10 (T_0_now 2)), (h_0_now_list, eI cI 160 (T_0_now 3))]) (w2 := [(h_0, oX5 g_0_nextRules g_0_rules h_0_now h_0_past g_0_searcher g_0_dealt g_0_tried P_0), (h_0_past, oX3 h_0_past_lows h_0_past_highs h_0_past_places), (h_0_past_lows, eJ cJ 200 (S_0_pastu1 0)), (h_0_past_highs, eJ cJ 200 (S_0_pastu1 1)), (h_0_past_places, eJ cJ 200 (S_0_pastu1 2)), (h_0_now, oX4 g_0_now_rules h_0_now_lies h_0_now_tops h_0_now_list T_0_now), (h_0_now_lies, eI cI 16 (T_0_now 1)), (h_0_now_tops, eI cI 10 (T_0_now 2)), (h_0_now_list, eI cI 160 (T_0_now 3))]) hCF hK (c_X5_codeOf l D cI cJ v1 v2 v3 x3 hc4) (va_cwS 3 hts (TBL_S mw_350 mw_303 mw_2 mw_304) rfl rfl rfl pmX5_codeOf.2 ⟨Nat.le_of_ble_eq_true rfl, Nat.le_of_ble_eq_true rfl⟩) hS hA [] [0, 1, 2, 3, 4, 5, 6, 7, 8] rfl rfl rfl rfl (by decide) rfl hl.1 rfl (Nat.le_of_ble_eq_true rfl) ⟨Nat.zero_le _, Nat.zero_le _⟩ dX5_doMove_22 rfl (fun H locs hS => ?_)
  replace hF := cal1_e hF
  obtain ⟨T_0_nowu5, hc6, hF⟩ := hF
  refine kV_v (As := [.int x3]) (rest := []) (wr := [(h_0, oX5 g_0_nextRules g_0_rules h_0_now h_0_past g_0_searcher g_0_dealt g_0_tried P_0), (h_0_past, oX3 h_0_past_lows h_0_past_highs h_0_past_places), (h_0_past_lows, eJ cJ 200 (S_0_pastu1 0)), (h_0_past_highs, eJ cJ 200 (S_0_pastu1 1)), (h_0_past_places, eJ cJ 200 (S_0_pastu1 2))]) (w2 := [(h_0, oX5 g_0_nextRules g_0_rules h_0_now h_0_past g_0_searcher g_0_dealt g_0_tried P_0), (h_0_past, oX3 h_0_past_lows h_0_past_highs h_0_past_places), (h_0_past_lows, eJ cJ 200 (S_0_pastu1 0)), (h_0_past_highs, eJ cJ 200 (S_0_pastu1 1)), (h_0_past_places, eJ cJ 200 (S_0_pastu1 2)), (h_0_now, oX4 g_0_now_rules h_0_now_lies h_0_now_tops h_0_now_list T_0_nowu5), (h_0_now_lies, eI cI 16 (T_0_nowu5 1)), (h_0_now_tops, eI cI 10 (T_0_nowu5 2)), (h_0_now_list, eI cI 160 (T_0_nowu5 3))]) hCF hK (c_X4_play l D cI cJ h_0_now h_0_now_lies h_0_now_tops h_0_now_list g_0_now_rules T_0_now x3 T_0_nowu5 hc6) (cwV 1 hts (TBL_V mw_351 mw_352 mw_353 mw_17 mw_354) rfl rfl rfl pmX4_play ⟨Nat.le_of_ble_eq_true rfl, Nat.le_of_ble_eq_true rfl⟩) hS hA [5, 6, 7, 8] [0, 1, 2, 3, 4] rfl rfl rfl rfl (by decide) rfl rfl rfl hl.1 rfl (Nat.le_of_ble_eq_true rfl) ⟨Nat.zero_le _, Nat.zero_le _⟩ dX5_doMove_25 rfl (fun H locs hS => ?_)
  refine lv_aload_n hx hb dX5_doMove_28 rfl (lv_at hl 0 rfl) ?_
  refine lv_dup hx hb dX5_doMove_29 rfl ?_
  refine r_get hx hb hts inX5 hown hK hS 0 7 rfl rfl (by decide) q2 rfl dX5_doMove_30 ?_
  refine lv_iconst (v := (nI 1)) hx hb dX5_doMove_33 (by decide) ?_
  refine lv_iadd hx hb dX5_doMove_34 ?_
  replace hF := bnd_e hF
  obtain ⟨P_0u7, eP_0u7, hF⟩ := hF
  refine r_put (w2 := [(h_0, oX5 g_0_nextRules g_0_rules h_0_now h_0_past g_0_searcher g_0_dealt g_0_tried P_0u7), (h_0_past, oX3 h_0_past_lows h_0_past_highs h_0_past_places), (h_0_past_lows, eJ cJ 200 (S_0_pastu1 0)), (h_0_past_highs, eJ cJ 200 (S_0_pastu1 1)), (h_0_past_places, eJ cJ 200 (S_0_pastu1 2)), (h_0_now, oX4 g_0_now_rules h_0_now_lies h_0_now_tops h_0_now_list T_0_nowu5), (h_0_now_lies, eI cI 16 (T_0_nowu5 1)), (h_0_now_tops, eI cI 10 (T_0_nowu5 2)), (h_0_now_list, eI cI 160 (T_0_nowu5 3))]) hx hb hts inX5 tyX5 tyX5_ok nmX5 hown hK hS 0 7 rfl rfl (by decide) q2 rfl rfl rfl (Nat.le_of_ble_eq_true rfl) dX5_doMove_35 (by rw [eP_0u7]; rfl) (fun H locs hS => ?_)
  have e9_0 := Option.some.inj hF
  obtain ⟨f9_0, e9_1⟩ := Prod.mk.inj e9_0
  obtain ⟨f9_1, e9_2⟩ := Prod.mk.inj e9_1
  subst f9_0
  subst f9_1
  subst e9_2
  exact kret _ _ _ _ hS dX5_doMove_38
set_option maxHeartbeats 4000000 in
set_option maxRecDepth 100000 in
theorem c_X5_safe (l : Launch) (D : va_G) (cI cJ : ClassId) (h_0 h_0_now h_0_now_lies h_0_now_tops h_0_now_list h_0_rules h_0_past h_0_past_lows h_0_past_highs h_0_past_places g_0_nextRules g_0_searcher g_0_dealt g_0_tried : Nat) (r_0_rules : Nat → Int32) (P_0 : Nat → Int32) (T_0_now : Nat → Nat → Int32) (S_0_past : Nat → Nat → Int64) (rv : Int32) (r_P_0 : Nat → Int32) (r_T_0_now : Nat → Nat → Int32) (r_S_0_past : Nat → Nat → Int64) (hF : F_X5_safe r_0_rules P_0 T_0_now S_0_past = some (rv, r_P_0, r_T_0_now, r_S_0_past)) : CtI l D [(cI, .int), (cJ, .long)] yX5_safe wtX5_safe ({ frames := 6, cells := 0, slots := 0, locals := 139 } : Room) [.ref h_0] [(h_0, oX5 g_0_nextRules h_0_rules h_0_now h_0_past g_0_searcher g_0_dealt g_0_tried P_0), (h_0_now, oX4 h_0_rules h_0_now_lies h_0_now_tops h_0_now_list T_0_now), (h_0_now_lies, eI cI 16 (T_0_now 1)), (h_0_now_tops, eI cI 10 (T_0_now 2)), (h_0_now_list, eI cI 160 (T_0_now 3)), (h_0_rules, oX1 r_0_rules), (h_0_past, oX3 h_0_past_lows h_0_past_highs h_0_past_places), (h_0_past_lows, eJ cJ 200 (S_0_past 0)), (h_0_past_highs, eJ cJ 200 (S_0_past 1)), (h_0_past_places, eJ cJ 200 (S_0_past 2))] [(h_0, oX5 g_0_nextRules h_0_rules h_0_now h_0_past g_0_searcher g_0_dealt g_0_tried r_P_0), (h_0_now, oX4 h_0_rules h_0_now_lies h_0_now_tops h_0_now_list r_T_0_now), (h_0_now_lies, eI cI 16 (r_T_0_now 1)), (h_0_now_tops, eI cI 10 (r_T_0_now 2)), (h_0_now_list, eI cI 160 (r_T_0_now 3)), (h_0_rules, oX1 r_0_rules), (h_0_past, oX3 h_0_past_lows h_0_past_highs h_0_past_places), (h_0_past_lows, eJ cJ 200 (r_S_0_past 0)), (h_0_past_highs, eJ cJ 200 (r_S_0_past 1)), (h_0_past_places, eJ cJ 200 (r_S_0_past 2))] rv := by
  refine CtI.of (cc := cX5_safe) (maxL := 4) (by decide) rfl (Nat.le_of_ble_eq_true rfl) ?_
  intro p e s m args below meth c A H0 Q ls X hS hl kret
  have hCF := X.1
  obtain ⟨⟨hx, hb, hml, hown, hts⟩, hK, hA⟩ := X
  have hl : lv_has ls 4 [(0, .ref h_0)] := hl
  have q0 := hts (.fieldLink RX5 52 "Patiencery" "done" "I") (List.mem_cons_of_mem _ mw_32)
  have inX5 : ∀ w ∈ u_ws RX5 TX5 10, w ∈ wtX5_safe := fun w h => List.mem_cons_of_mem _ (inlX5 w h)
  have q2 := hts (.fieldLink RX5 22 "Patiencery" "now" "LPatiencery$Table;") (List.mem_cons_of_mem _ mw_18)
  have B50 : ∀ (P_0 : Nat → Int32) (T_0_now : Nat → Nat → Int32) (S_0_past : Nat → Nat → Int64) (v1 : Int32) (H : Heap) (locs : List Loc) (ls : Array Slot), HS D A H0 [(h_0, oX5 g_0_nextRules h_0_rules h_0_now h_0_past g_0_searcher g_0_dealt g_0_tried P_0), (h_0_now, oX4 h_0_rules h_0_now_lies h_0_now_tops h_0_now_list T_0_now), (h_0_now_lies, eI cI 16 (T_0_now 1)), (h_0_now_tops, eI cI 10 (T_0_now 2)), (h_0_now_list, eI cI 160 (T_0_now 3)), (h_0_rules, oX1 r_0_rules), (h_0_past, oX3 h_0_past_lows h_0_past_highs h_0_past_places), (h_0_past_lows, eJ cJ 200 (S_0_past 0)), (h_0_past_highs, eJ cJ 200 (S_0_past 1)), (h_0_past_places, eJ cJ 200 (S_0_past 2))] H locs → lv_has ls 4 [(0, .ref h_0), (1, .int v1)] → F_X5_safe_b50 r_0_rules  P_0 T_0_now S_0_past v1 = some (rv, r_P_0, r_T_0_now, r_S_0_past) → W p l e ({ frames := 6, cells := 0, slots := 0, locals := 139 } : Room) s m args below meth c H locs 0 0 Q (F0 m 50 ls []) := by
    intro P_0 T_0_now S_0_past v1 H locs ls hS hl hF
    unfold F_X5_safe_b50 at hF
    refine lv_aload_n hx hb dX5_safe_50 rfl (lv_at hl 0 rfl) ?_
    refine r_get hx hb hts inX5 hown hK hS 0 7 rfl rfl (by decide) q0 rfl dX5_safe_51 ?_
    refine lv_iload_n hx hb dX5_safe_54 rfl (lv_at hl 1 rfl) ?_
    refine lv_isub hx hb dX5_safe_55 ?_
    have e9_0 := Option.some.inj hF
    obtain ⟨f9_0, e9_1⟩ := Prod.mk.inj e9_0
    obtain ⟨f9_1, e9_2⟩ := Prod.mk.inj e9_1
    obtain ⟨f9_2, e9_3⟩ := Prod.mk.inj e9_2
    subst f9_0
    subst f9_1
    subst f9_2
    subst e9_3
    exact kret _ _ _ _ hS dX5_safe_56
  have S19 : ∀ (K19 : (Nat → Int32) → (Nat → Nat → Int32) → (Nat → Nat → Int64) → Int32 → Int32 → Int32 → Option (Int32 × (Nat → Int32) × (Nat → Nat → Int32) × (Nat → Nat → Int64))) (_ : ∀ (P_0 : Nat → Int32) (T_0_now : Nat → Nat → Int32) (S_0_past : Nat → Nat → Int64) (v1 : Int32) (v2 : Int32) (v3 : Int32) (H : Heap) (locs : List Loc) (ls : Array Slot), HS D A H0 [(h_0, oX5 g_0_nextRules h_0_rules h_0_now h_0_past g_0_searcher g_0_dealt g_0_tried P_0), (h_0_now, oX4 h_0_rules h_0_now_lies h_0_now_tops h_0_now_list T_0_now), (h_0_now_lies, eI cI 16 (T_0_now 1)), (h_0_now_tops, eI cI 10 (T_0_now 2)), (h_0_now_list, eI cI 160 (T_0_now 3)), (h_0_rules, oX1 r_0_rules), (h_0_past, oX3 h_0_past_lows h_0_past_highs h_0_past_places), (h_0_past_lows, eJ cJ 200 (S_0_past 0)), (h_0_past_highs, eJ cJ 200 (S_0_past 1)), (h_0_past_places, eJ cJ 200 (S_0_past 2))] H locs → lv_has ls 4 [(0, .ref h_0), (1, .int v1), (2, .int v2), (3, .int v3)] → K19 P_0 T_0_now S_0_past v1 v2 v3 = some (rv, r_P_0, r_T_0_now, r_S_0_past) → W p l e ({ frames := 6, cells := 0, slots := 0, locals := 139 } : Room) s m args below meth c H locs 0 0 Q (F0 m 19 ls [])) (P_0 : Nat → Int32) (T_0_now : Nat → Nat → Int32) (S_0_past : Nat → Nat → Int64) (v1 : Int32) (v2 : Int32) (v3 : Int32) (H : Heap) (locs : List Loc) (ls : Array Slot), HS D A H0 [(h_0, oX5 g_0_nextRules h_0_rules h_0_now h_0_past g_0_searcher g_0_dealt g_0_tried P_0), (h_0_now, oX4 h_0_rules h_0_now_lies h_0_now_tops h_0_now_list T_0_now), (h_0_now_lies, eI cI 16 (T_0_now 1)), (h_0_now_tops, eI cI 10 (T_0_now 2)), (h_0_now_list, eI cI 160 (T_0_now 3)), (h_0_rules, oX1 r_0_rules), (h_0_past, oX3 h_0_past_lows h_0_past_highs h_0_past_places), (h_0_past_lows, eJ cJ 200 (S_0_past 0)), (h_0_past_highs, eJ cJ 200 (S_0_past 1)), (h_0_past_places, eJ cJ 200 (S_0_past 2))] H locs → lv_has ls 4 [(0, .ref h_0), (1, .int v1), (2, .int v2), (3, .int v3)] → F_X5_safe_s19 r_0_rules K19 P_0 T_0_now S_0_past v1 v2 v3 = some (rv, r_P_0, r_T_0_now, r_S_0_past) → W p l e ({ frames := 6, cells := 0, slots := 0, locals := 139 } : Room) s m args below meth c H locs 0 0 Q (F0 m 19 ls []) := by
    intro K19 hK19 P_0 T_0_now S_0_past v1 v2 v3 H locs ls hS hl hF
    unfold F_X5_safe_s19 at hF
    refine lv_iload_n hx hb dX5_safe_19 rfl (lv_at hl 3 rfl) ?_
    refine lv_if_le (tgt := 50) hx hb dX5_safe_20 (by decide) (fun c_1 => ?_) (fun c_1 => ?_)
    · replace hF := ifp hF c_1
      exact B50 P_0 T_0_now S_0_past v1 _ _ _ hS (lv_sub hl [0, 1] rfl) hF
    · replace hF := ifn hF c_1
      refine lv_iload_n hx hb dX5_safe_23 rfl (lv_at hl 2 rfl) ?_
      refine lv_iconst (v := (-1)) hx hb dX5_safe_24 (by decide) ?_
      refine lv_icmp_eq (tgt := 50) hx hb dX5_safe_25 (by decide) (fun c_2 => ?_) (fun c_2 => ?_)
      · replace hF := ifp hF c_2
        exact B50 P_0 T_0_now S_0_past v1 _ _ _ hS (lv_sub hl [0, 1] rfl) hF
      · replace hF := ifn hF c_2
        refine lv_aload_n hx hb dX5_safe_28 rfl (lv_at hl 0 rfl) ?_
        refine lv_iload_n hx hb dX5_safe_29 rfl (lv_at hl 2 rfl) ?_
        refine lv_bipush (v := (nI 8)) hx hb dX5_safe_30 (by decide) ?_
        refine lv_iconst (v := (nI 1)) hx hb dX5_safe_32 (by decide) ?_
        replace hF := cal3_e hF
        obtain ⟨P_0u3, S_0_pastu4, T_0_nowu5, hc6, hF⟩ := hF
        refine kV_v (As := [.int v2, .int (nI 8), .int (nI 1)]) (rest := []) (wr := [(h_0_rules, oX1 r_0_rules)]) (w2 := [(h_0_rules, oX1 r_0_rules), (h_0, oX5 g_0_nextRules h_0_rules h_0_now h_0_past g_0_searcher g_0_dealt g_0_tried P_0u3), (h_0_past, oX3 h_0_past_lows h_0_past_highs h_0_past_places), (h_0_past_lows, eJ cJ 200 (S_0_pastu4 0)), (h_0_past_highs, eJ cJ 200 (S_0_pastu4 1)), (h_0_past_places, eJ cJ 200 (S_0_pastu4 2)), (h_0_now, oX4 h_0_rules h_0_now_lies h_0_now_tops h_0_now_list T_0_nowu5), (h_0_now_lies, eI cI 16 (T_0_nowu5 1)), (h_0_now_tops, eI cI 10 (T_0_nowu5 2)), (h_0_now_list, eI cI 160 (T_0_nowu5 3))]) hCF hK (c_X5_doMove l D cI cJ h_0 h_0_past h_0_past_lows h_0_past_highs h_0_past_places h_0_now h_0_now_lies h_0_now_tops h_0_now_list g_0_nextRules h_0_rules g_0_searcher g_0_dealt g_0_tried h_0_rules P_0 S_0_past T_0_now v2 (nI 8) (nI 1) P_0u3 S_0_pastu4 T_0_nowu5 hc6) (cwV 3 hts (TBL_V mw_327 mw_328 mw_329 mw_2 mw_330) rfl rfl rfl pmX5_doMove ⟨Nat.le_of_ble_eq_true rfl, Nat.le_of_ble_eq_true rfl⟩) hS hA [0, 6, 7, 8, 9, 1, 2, 3, 4] [5] rfl rfl rfl rfl (by decide) rfl rfl rfl hl.1 rfl (Nat.le_of_ble_eq_true rfl) ⟨Nat.zero_le _, Nat.zero_le _⟩ dX5_safe_33 rfl (fun H locs hS => ?_)
        refine lv_aload_n hx hb dX5_safe_36 rfl (lv_at hl 0 rfl) ?_
        refine r_get hx hb hts inX5 hown hK hS 1 2 rfl rfl (by decide) q2 rfl dX5_safe_37 ?_
        replace hF := cal1_e hF
        obtain ⟨x7, hc8, hF⟩ := hF
        refine kV_i (As := []) (rest := []) (wr := [(h_0, oX5 g_0_nextRules h_0_rules h_0_now h_0_past g_0_searcher g_0_dealt g_0_tried P_0u3), (h_0_past, oX3 h_0_past_lows h_0_past_highs h_0_past_places), (h_0_past_lows, eJ cJ 200 (S_0_pastu4 0)), (h_0_past_highs, eJ cJ 200 (S_0_pastu4 1)), (h_0_past_places, eJ cJ 200 (S_0_pastu4 2))]) (w2 := [(h_0, oX5 g_0_nextRules h_0_rules h_0_now h_0_past g_0_searcher g_0_dealt g_0_tried P_0u3), (h_0_past, oX3 h_0_past_lows h_0_past_highs h_0_past_places), (h_0_past_lows, eJ cJ 200 (S_0_pastu4 0)), (h_0_past_highs, eJ cJ 200 (S_0_pastu4 1)), (h_0_past_places, eJ cJ 200 (S_0_pastu4 2)), (h_0_now, oX4 h_0_rules h_0_now_lies h_0_now_tops h_0_now_list T_0_nowu5), (h_0_now_lies, eI cI 16 (T_0_nowu5 1)), (h_0_now_tops, eI cI 10 (T_0_nowu5 2)), (h_0_now_list, eI cI 160 (T_0_nowu5 3)), (h_0_rules, oX1 r_0_rules)]) hCF hK (c_X4_firstSafePlace l D cI cJ h_0_now h_0_now_lies h_0_now_tops h_0_now_list h_0_rules T_0_nowu5 r_0_rules x7 hc8) (cwV 0 hts (TBL_V mw_388 mw_389 mw_390 mw_17 mw_391) rfl rfl rfl pmX4_firstSafePlace ⟨Nat.le_of_ble_eq_true rfl, Nat.le_of_ble_eq_true rfl⟩) hS hA [6, 7, 8, 9, 0] [1, 2, 3, 4, 5] rfl rfl rfl rfl (by decide) rfl rfl rfl hl.1 rfl (Nat.le_of_ble_eq_true rfl) ⟨Nat.zero_le _, Nat.zero_le _⟩ dX5_safe_40 rfl (fun H locs hS => ?_)
        refine lv_istore_n (lv' := [(2, .int x7), (0, .ref h_0), (1, .int v1), (3, .int v3)]) hx hb dX5_safe_43 rfl hl (by decide) rfl (fun ls hl => ?_)
        refine lv_iinc (v := v3 + (-1)) (lv' := [(3, .int (v3 + (-1))), (2, .int x7), (0, .ref h_0), (1, .int v1)]) hx hb dX5_safe_44 hl (k := 3) rfl rfl (by decide) rfl (fun ls hl => ?_)
        refine lv_goto (tgt := 19) hx hb dX5_safe_47 (by decide) ?_
        exact hK19 P_0u3 T_0_nowu5 S_0_pastu4 v1 x7 (v3 + (-1)) _ _ _ (hS.sub [0, 5, 6, 7, 8, 9, 1, 2, 3, 4] rfl rfl) (lv_sub hl [2, 3, 1, 0] rfl) hF
  have L19 : ∀  (n : Nat) (P_0 : Nat → Int32) (T_0_now : Nat → Nat → Int32) (S_0_past : Nat → Nat → Int64) (v1 : Int32) (v2 : Int32) (v3 : Int32) (H : Heap) (locs : List Loc) (ls : Array Slot), HS D A H0 [(h_0, oX5 g_0_nextRules h_0_rules h_0_now h_0_past g_0_searcher g_0_dealt g_0_tried P_0), (h_0_now, oX4 h_0_rules h_0_now_lies h_0_now_tops h_0_now_list T_0_now), (h_0_now_lies, eI cI 16 (T_0_now 1)), (h_0_now_tops, eI cI 10 (T_0_now 2)), (h_0_now_list, eI cI 160 (T_0_now 3)), (h_0_rules, oX1 r_0_rules), (h_0_past, oX3 h_0_past_lows h_0_past_highs h_0_past_places), (h_0_past_lows, eJ cJ 200 (S_0_past 0)), (h_0_past_highs, eJ cJ 200 (S_0_past 1)), (h_0_past_places, eJ cJ 200 (S_0_past 2))] H locs → lv_has ls 4 [(0, .ref h_0), (1, .int v1), (2, .int v2), (3, .int v3)] → F_X5_safe_L19 r_0_rules  n P_0 T_0_now S_0_past v1 v2 v3 = some (rv, r_P_0, r_T_0_now, r_S_0_past) → W p l e ({ frames := 6, cells := 0, slots := 0, locals := 139 } : Room) s m args below meth c H locs 0 0 Q (F0 m 19 ls []) := by
    intro  n
    induction n with
    | zero => intro P_0 T_0_now S_0_past v1 v2 v3 H locs ls hS hl hF; exact nomatch (show (none : Option (Int32 × (Nat → Int32) × (Nat → Nat → Int32) × (Nat → Nat → Int64))) = some _ from hF)
    | succ n ih => intro P_0 T_0_now S_0_past v1 v2 v3 H locs ls hS hl hF; exact S19  _ ih P_0 T_0_now S_0_past v1 v2 v3 H locs ls hS hl hF
  unfold F_X5_safe at hF
  refine lv_aload_n hx hb dX5_safe_0 rfl (lv_at hl 0 rfl) ?_
  refine r_get hx hb hts inX5 hown hK hS 0 7 rfl rfl (by decide) q0 rfl dX5_safe_1 ?_
  refine lv_istore_n (lv' := [(1, .int (P_0 7)), (0, .ref h_0)]) hx hb dX5_safe_4 rfl hl (by decide) rfl (fun ls hl => ?_)
  refine lv_aload_n hx hb dX5_safe_5 rfl (lv_at hl 1 rfl) ?_
  refine r_get hx hb hts inX5 hown hK hS 0 2 rfl rfl (by decide) q2 rfl dX5_safe_6 ?_
  replace hF := cal1_e hF
  obtain ⟨x9, hc10, hF⟩ := hF
  refine kV_i (As := []) (rest := []) (wr := [(h_0, oX5 g_0_nextRules h_0_rules h_0_now h_0_past g_0_searcher g_0_dealt g_0_tried P_0), (h_0_past, oX3 h_0_past_lows h_0_past_highs h_0_past_places), (h_0_past_lows, eJ cJ 200 (S_0_past 0)), (h_0_past_highs, eJ cJ 200 (S_0_past 1)), (h_0_past_places, eJ cJ 200 (S_0_past 2))]) (w2 := [(h_0, oX5 g_0_nextRules h_0_rules h_0_now h_0_past g_0_searcher g_0_dealt g_0_tried P_0), (h_0_past, oX3 h_0_past_lows h_0_past_highs h_0_past_places), (h_0_past_lows, eJ cJ 200 (S_0_past 0)), (h_0_past_highs, eJ cJ 200 (S_0_past 1)), (h_0_past_places, eJ cJ 200 (S_0_past 2)), (h_0_now, oX4 h_0_rules h_0_now_lies h_0_now_tops h_0_now_list T_0_now), (h_0_now_lies, eI cI 16 (T_0_now 1)), (h_0_now_tops, eI cI 10 (T_0_now 2)), (h_0_now_list, eI cI 160 (T_0_now 3)), (h_0_rules, oX1 r_0_rules)]) hCF hK (c_X4_firstSafePlace l D cI cJ h_0_now h_0_now_lies h_0_now_tops h_0_now_list h_0_rules T_0_now r_0_rules x9 hc10) (cwV 0 hts (TBL_V mw_388 mw_389 mw_390 mw_17 mw_391) rfl rfl rfl pmX4_firstSafePlace ⟨Nat.le_of_ble_eq_true rfl, Nat.le_of_ble_eq_true rfl⟩) hS hA [1, 2, 3, 4, 5] [0, 6, 7, 8, 9] rfl rfl rfl rfl (by decide) rfl rfl rfl hl.1 rfl (Nat.le_of_ble_eq_true rfl) ⟨Nat.zero_le _, Nat.zero_le _⟩ dX5_safe_9 rfl (fun H locs hS => ?_)
  refine lv_istore_n (lv' := [(2, .int x9), (1, .int (P_0 7)), (0, .ref h_0)]) hx hb dX5_safe_12 rfl hl (by decide) rfl (fun ls hl => ?_)
  refine lv_sipush (v := (nI 200)) hx hb dX5_safe_13 (by decide) ?_
  refine lv_iload_n hx hb dX5_safe_16 rfl (lv_at hl 1 rfl) ?_
  refine lv_isub hx hb dX5_safe_17 ?_
  refine lv_istore_n (lv' := [(3, .int ((nI 200) - (P_0 7))), (2, .int x9), (1, .int (P_0 7)), (0, .ref h_0)]) hx hb dX5_safe_18 rfl hl (by decide) rfl (fun ls hl => ?_)
  exact L19 FU P_0 T_0_now S_0_past (P_0 7) x9 ((nI 200) - (P_0 7)) _ _ _ (hS.sub [0, 5, 6, 7, 8, 9, 1, 2, 3, 4] rfl rfl) (lv_sub hl [3, 2, 1, 0] rfl) hF
set_option maxHeartbeats 4000000 in
set_option maxRecDepth 100000 in
theorem c_X5_moves (l : Launch) (D : va_G) (cI cJ : ClassId) (h_0 h_0_now h_0_now_lies h_0_now_tops h_0_now_list h_0_rules g_0_nextRules g_0_past g_0_searcher g_0_dealt g_0_tried : Nat) (P_0 : Nat → Int32) (r_0_rules : Nat → Int32) (T_0_now : Nat → Nat → Int32) (rv : Int32) (r_T_0_now : Nat → Nat → Int32) (hF : F_X5_moves P_0 r_0_rules T_0_now = some (rv, r_T_0_now)) : CtI l D [(cI, .int), (cJ, .long)] yX5_moves wtX5_moves ({ frames := 5, cells := 0, slots := 0, locals := 116 } : Room) [.ref h_0] [(h_0, oX5 g_0_nextRules h_0_rules h_0_now g_0_past g_0_searcher g_0_dealt g_0_tried P_0), (h_0_now, oX4 h_0_rules h_0_now_lies h_0_now_tops h_0_now_list T_0_now), (h_0_now_lies, eI cI 16 (T_0_now 1)), (h_0_now_tops, eI cI 10 (T_0_now 2)), (h_0_now_list, eI cI 160 (T_0_now 3)), (h_0_rules, oX1 r_0_rules)] [(h_0, oX5 g_0_nextRules h_0_rules h_0_now g_0_past g_0_searcher g_0_dealt g_0_tried P_0), (h_0_now, oX4 h_0_rules h_0_now_lies h_0_now_tops h_0_now_list r_T_0_now), (h_0_now_lies, eI cI 16 (r_T_0_now 1)), (h_0_now_tops, eI cI 10 (r_T_0_now 2)), (h_0_now_list, eI cI 160 (r_T_0_now 3)), (h_0_rules, oX1 r_0_rules)] rv := by
  refine CtI.of (cc := cX5_moves) (maxL := 1) (by decide) rfl (Nat.le_of_ble_eq_true rfl) ?_
  intro p e s m args below meth c A H0 Q ls X hS hl kret
  have hCF := X.1
  obtain ⟨⟨hx, hb, hml, hown, hts⟩, hK, hA⟩ := X
  have hl : lv_has ls 1 [(0, .ref h_0)] := hl
  have q0 := hts (.fieldLink RX5 22 "Patiencery" "now" "LPatiencery$Table;") (List.mem_cons_of_mem _ mw_18)
  have inX5 : ∀ w ∈ u_ws RX5 TX5 10, w ∈ wtX5_moves := fun w h => List.mem_cons_of_mem _ (inlX5 w h)
  have q2 := hts (.fieldLink RX5 182 "Patiencery$Table" "listed" "I") (List.mem_cons_of_mem _ mw_238)
  have inX4 : ∀ w ∈ u_ws RX4 TX4 7, w ∈ wtX5_moves := fun w h => List.mem_cons_of_mem _ (inlX4 w h)
  unfold F_X5_moves at hF
  refine lv_aload_n hx hb dX5_moves_0 rfl (lv_at hl 0 rfl) ?_
  refine r_get hx hb hts inX5 hown hK hS 0 2 rfl rfl (by decide) q0 rfl dX5_moves_1 ?_
  replace hF := cal1_e hF
  obtain ⟨T_0_nowu1, hc2, hF⟩ := hF
  refine kV_v (As := []) (rest := []) (wr := [(h_0, oX5 g_0_nextRules h_0_rules h_0_now g_0_past g_0_searcher g_0_dealt g_0_tried P_0)]) (w2 := [(h_0, oX5 g_0_nextRules h_0_rules h_0_now g_0_past g_0_searcher g_0_dealt g_0_tried P_0), (h_0_now, oX4 h_0_rules h_0_now_lies h_0_now_tops h_0_now_list T_0_nowu1), (h_0_now_lies, eI cI 16 (T_0_nowu1 1)), (h_0_now_tops, eI cI 10 (T_0_nowu1 2)), (h_0_now_list, eI cI 160 (T_0_nowu1 3)), (h_0_rules, oX1 r_0_rules)]) hCF hK (c_X4_listMoves l D cI cJ h_0_now h_0_now_lies h_0_now_tops h_0_now_list h_0_rules r_0_rules T_0_now T_0_nowu1 hc2) (cwV 0 hts (TBL_V mw_239 mw_240 mw_241 mw_17 mw_242) rfl rfl rfl pmX4_listMoves ⟨Nat.le_of_ble_eq_true rfl, Nat.le_of_ble_eq_true rfl⟩) hS hA [1, 2, 3, 4, 5] [0] rfl rfl rfl rfl (by decide) rfl rfl rfl hl.1 rfl (Nat.le_of_ble_eq_true rfl) ⟨Nat.zero_le _, Nat.zero_le _⟩ dX5_moves_4 rfl (fun H locs hS => ?_)
  refine lv_aload_n hx hb dX5_moves_7 rfl (lv_at hl 0 rfl) ?_
  refine r_get hx hb hts inX5 hown hK hS 0 2 rfl rfl (by decide) q0 rfl dX5_moves_8 ?_
  refine r_get hx hb hts inX4 hown hK hS 1 4 rfl rfl (by decide) q2 rfl dX5_moves_11 ?_
  have e9_0 := Option.some.inj hF
  obtain ⟨f9_0, e9_1⟩ := Prod.mk.inj e9_0
  subst f9_0
  subst e9_1
  exact kret _ _ _ _ hS dX5_moves_14
set_option maxHeartbeats 4000000 in
set_option maxRecDepth 100000 in
theorem c_X3_bucketOf (l : Launch) (D : va_G) (cI cJ : ClassId) (h_0 h_0_lows h_0_highs h_0_places : Nat) (n_0 : Nat) (S_0 : Nat → Nat → Int64) (v1 : Int32) (rv : Int32) (hF : F_X3_bucketOf S_0 n_0 v1 = some rv) : CtI l D [(cI, .int), (cJ, .long)] yX3_bucketOf wtX3_bucketOf ({ frames := 1, cells := 0, slots := 0, locals := 21 } : Room) [.ref h_0, .int v1] [(h_0, oX3 h_0_lows h_0_highs h_0_places), (h_0_lows, eJ cJ n_0 (S_0 0)), (h_0_highs, eJ cJ n_0 (S_0 1)), (h_0_places, eJ cJ n_0 (S_0 2))] [(h_0, oX3 h_0_lows h_0_highs h_0_places), (h_0_lows, eJ cJ n_0 (S_0 0)), (h_0_highs, eJ cJ n_0 (S_0 1)), (h_0_places, eJ cJ n_0 (S_0 2))] rv := by
  refine CtI.of (cc := cX3_bucketOf) (maxL := 4) (by decide) rfl (Nat.le_of_ble_eq_true rfl) ?_
  intro p e s m args below meth c A H0 Q ls X hS hl kret
  have hCF := X.1
  obtain ⟨⟨hx, hb, hml, hown, hts⟩, hK, hA⟩ := X
  have hl : lv_has ls 4 [(0, .ref h_0), (1, .int v1)] := hl
  have q0 := hts (.fieldLink RX3 15 "Patiencery$Shelf" "lows" "[J") (List.mem_cons_of_mem _ mw_68)
  have inX3 : ∀ w ∈ u_ws RX3 TX3 3, w ∈ wtX3_bucketOf := fun w h => List.mem_cons_of_mem _ (inlX3 w h)
  have q2 := hts (.constantLong RX3 56 (31)) (List.mem_cons_of_mem _ mw_432)
  have q3 := hts (.fieldLink RX3 21 "Patiencery$Shelf" "highs" "[J") (List.mem_cons_of_mem _ mw_69)
  have q4 := hts (.constantLong RX3 58 (-7046029254386353131)) (List.mem_cons_of_mem _ mw_433)
  unfold F_X3_bucketOf at hF
  refine lv_aload_n hx hb dX3_bucketOf_0 rfl (lv_at hl 0 rfl) ?_
  refine lv_iload_n hx hb dX3_bucketOf_1 rfl (lv_at hl 1 rfl) ?_
  replace hF := cal1_e hF
  obtain ⟨x1, hc2, hF⟩ := hF
  refine kV_i (As := [.int v1]) (rest := []) (wr := []) (w2 := [(h_0, oX3 h_0_lows h_0_highs h_0_places), (h_0_lows, eJ cJ n_0 (S_0 0)), (h_0_highs, eJ cJ n_0 (S_0 1)), (h_0_places, eJ cJ n_0 (S_0 2))]) hCF hK (c_X3_isRow l D cI cJ h_0 h_0_lows h_0_highs h_0_places n_0 S_0 v1 x1 hc2) (cwV 1 hts (TBL_V mw_337 mw_338 mw_339 mw_21 mw_340) rfl rfl rfl pmX3_isRow ⟨Nat.le_of_ble_eq_true rfl, Nat.le_of_ble_eq_true rfl⟩) hS hA [0, 1, 2, 3] [] rfl rfl rfl rfl (by decide) rfl rfl rfl hl.1 rfl (Nat.le_of_ble_eq_true rfl) ⟨Nat.zero_le _, Nat.zero_le _⟩ dX3_bucketOf_2 rfl (fun H locs hS => ?_)
  refine lv_if_ne (tgt := 10) hx hb dX3_bucketOf_5 (by decide) (fun c_3 => ?_) (fun c_3 => ?_)
  · replace hF := ifn hF c_3
    refine lv_aload_n hx hb dX3_bucketOf_10 rfl (lv_at hl 0 rfl) ?_
    refine r_get hx hb hts inX3 hown hK hS 0 0 rfl rfl (by decide) q0 rfl dX3_bucketOf_11 ?_
    refine lv_iload_n hx hb dX3_bucketOf_14 rfl (lv_at hl 1 rfl) ?_
    replace hF := rdA_e hF
    obtain ⟨hi5, x4, ex4, hF⟩ := hF
    refine r_lald hx hb hK hS 1 rfl rfl hi5 dX3_bucketOf_15 ex4 ?_
    refine lv_ldc2 (v := (lN 31)) hx hb hown q2 dX3_bucketOf_16 ?_
    refine lv_lmul hx hb dX3_bucketOf_19 ?_
    refine lv_aload_n hx hb dX3_bucketOf_20 rfl (lv_at hl 0 rfl) ?_
    refine r_get hx hb hts inX3 hown hK hS 0 1 rfl rfl (by decide) q3 rfl dX3_bucketOf_21 ?_
    refine lv_iload_n hx hb dX3_bucketOf_24 rfl (lv_at hl 1 rfl) ?_
    replace hF := rdA_e hF
    obtain ⟨hi7, x6, ex6, hF⟩ := hF
    refine r_lald hx hb hK hS 2 rfl rfl hi7 dX3_bucketOf_25 ex6 ?_
    refine lv_ladd hx hb dX3_bucketOf_26 ?_
    refine lv_ldc2 (v := (-7046029254386353131)) hx hb hown q4 dX3_bucketOf_27 ?_
    refine lv_lmul hx hb dX3_bucketOf_30 ?_
    refine lv_lstore_n (lv' := [(2, .long (((x4 * (lN 31)) + x6) * (-7046029254386353131))), (0, .ref h_0), (1, .int v1)]) hx hb dX3_bucketOf_31 rfl hl (by decide) rfl (fun ls hl => ?_)
    refine lv_lload_n hx hb dX3_bucketOf_32 rfl (lv_at hl 0 rfl) ?_
    refine lv_bipush (v := (nI 40)) hx hb dX3_bucketOf_33 (by decide) ?_
    refine lv_lushr hx hb dX3_bucketOf_35 rfl ?_
    refine lv_l2i hx hb dX3_bucketOf_36 rfl ?_
    refine lv_sipush (v := (nI 255)) hx hb dX3_bucketOf_37 (by decide) ?_
    refine lv_iand hx hb dX3_bucketOf_40 ?_
    have e9_0 := Option.some.inj hF
    subst e9_0
    exact kret _ _ _ _ hS dX3_bucketOf_41
  · replace hF := ifp hF c_3
    refine lv_iconst (v := (nI 0)) hx hb dX3_bucketOf_8 (by decide) ?_
    have e9_0 := Option.some.inj hF
    subst e9_0
    exact kret _ _ _ _ hS dX3_bucketOf_9
set_option maxHeartbeats 4000000 in
set_option maxRecDepth 100000 in
theorem c_X2_makeKnown (l : Launch) (D : va_G) (cI cJ : ClassId) (h_0 h_0_steps h_0_newest h_0_older h_0_shelf h_0_shelf_lows h_0_shelf_highs h_0_shelf_places g_0_table g_0_origin : Nat) (S_0_shelf : Nat → Nat → Int64) (Q_0 : Nat → Nat → Int32) (v1 : Int32) (r_Q_0 : Nat → Nat → Int32) (hF : F_X2_makeKnown S_0_shelf Q_0 v1 = some r_Q_0) : CtV l D [(cI, .int), (cJ, .long)] yX2_makeKnown wtX2_makeKnown ({ frames := 2, cells := 0, slots := 0, locals := 44 } : Room) [.ref h_0, .int v1] [(h_0, oX2 g_0_table g_0_origin h_0_shelf h_0_steps h_0_newest h_0_older Q_0), (h_0_steps, eI cI 401 (Q_0 1)), (h_0_newest, eI cI 256 (Q_0 2)), (h_0_older, eI cI 401 (Q_0 3)), (h_0_shelf, oX3 h_0_shelf_lows h_0_shelf_highs h_0_shelf_places), (h_0_shelf_lows, eJ cJ 401 (S_0_shelf 0)), (h_0_shelf_highs, eJ cJ 401 (S_0_shelf 1)), (h_0_shelf_places, eJ cJ 401 (S_0_shelf 2))] [(h_0, oX2 g_0_table g_0_origin h_0_shelf h_0_steps h_0_newest h_0_older r_Q_0), (h_0_steps, eI cI 401 (r_Q_0 1)), (h_0_newest, eI cI 256 (r_Q_0 2)), (h_0_older, eI cI 401 (r_Q_0 3)), (h_0_shelf, oX3 h_0_shelf_lows h_0_shelf_highs h_0_shelf_places), (h_0_shelf_lows, eJ cJ 401 (S_0_shelf 0)), (h_0_shelf_highs, eJ cJ 401 (S_0_shelf 1)), (h_0_shelf_places, eJ cJ 401 (S_0_shelf 2))] := by
  refine CtV.of (cc := cX2_makeKnown) (maxL := 3) (by decide) rfl (Nat.le_of_ble_eq_true rfl) ?_
  intro p e s m args below meth c A H0 Q ls X hS hl kret
  have hCF := X.1
  obtain ⟨⟨hx, hb, hml, hown, hts⟩, hK, hA⟩ := X
  have hl : lv_has ls 3 [(0, .ref h_0), (1, .int v1)] := hl
  have q0 := hts (.fieldLink RX2 30 "Patiencery$Searcher" "shelf" "LPatiencery$Shelf;") (List.mem_cons_of_mem _ mw_79)
  have inX2 : ∀ w ∈ u_ws RX2 TX2 7, w ∈ wtX2_makeKnown := fun w h => List.mem_cons_of_mem _ (inlX2 w h)
  have q2 := hts (.fieldLink RX2 18 "Patiencery$Searcher" "count" "I") (List.mem_cons_of_mem _ mw_76)
  have q3 := hts (.fieldLink RX2 34 "Patiencery$Searcher" "steps" "[I") (List.mem_cons_of_mem _ mw_80)
  have q4 := hts (.fieldLink RX2 41 "Patiencery$Searcher" "older" "[I") (List.mem_cons_of_mem _ mw_82)
  have q5 := hts (.fieldLink RX2 38 "Patiencery$Searcher" "newest" "[I") (List.mem_cons_of_mem _ mw_81)
  unfold F_X2_makeKnown at hF
  refine lv_aload_n hx hb dX2_makeKnown_0 rfl (lv_at hl 0 rfl) ?_
  refine r_get hx hb hts inX2 hown hK hS 0 3 rfl rfl (by decide) q0 rfl dX2_makeKnown_1 ?_
  refine lv_aload_n hx hb dX2_makeKnown_4 rfl (lv_at hl 0 rfl) ?_
  refine r_get hx hb hts inX2 hown hK hS 0 1 rfl rfl (by decide) q2 rfl dX2_makeKnown_5 ?_
  replace hF := cal1_e hF
  obtain ⟨x1, hc2, hF⟩ := hF
  refine kV_i (As := [.int (Q_0 0 1)]) (rest := []) (wr := [(h_0, oX2 g_0_table g_0_origin h_0_shelf h_0_steps h_0_newest h_0_older Q_0), (h_0_steps, eI cI 401 (Q_0 1)), (h_0_newest, eI cI 256 (Q_0 2)), (h_0_older, eI cI 401 (Q_0 3))]) (w2 := [(h_0, oX2 g_0_table g_0_origin h_0_shelf h_0_steps h_0_newest h_0_older Q_0), (h_0_steps, eI cI 401 (Q_0 1)), (h_0_newest, eI cI 256 (Q_0 2)), (h_0_older, eI cI 401 (Q_0 3)), (h_0_shelf, oX3 h_0_shelf_lows h_0_shelf_highs h_0_shelf_places), (h_0_shelf_lows, eJ cJ 401 (S_0_shelf 0)), (h_0_shelf_highs, eJ cJ 401 (S_0_shelf 1)), (h_0_shelf_places, eJ cJ 401 (S_0_shelf 2))]) hCF hK (c_X3_bucketOf l D cI cJ h_0_shelf h_0_shelf_lows h_0_shelf_highs h_0_shelf_places 401 S_0_shelf (Q_0 0 1) x1 hc2) (cwV 1 hts (TBL_V mw_428 mw_429 mw_430 mw_21 mw_431) rfl rfl rfl pmX3_bucketOf ⟨Nat.le_of_ble_eq_true rfl, Nat.le_of_ble_eq_true rfl⟩) hS hA [4, 5, 6, 7] [0, 1, 2, 3] rfl rfl rfl rfl (by decide) rfl rfl rfl hl.1 rfl (Nat.le_of_ble_eq_true rfl) ⟨Nat.zero_le _, Nat.zero_le _⟩ dX2_makeKnown_8 rfl (fun H locs hS => ?_)
  refine lv_istore_n (lv' := [(2, .int x1), (0, .ref h_0), (1, .int v1)]) hx hb dX2_makeKnown_11 rfl hl (by decide) rfl (fun ls hl => ?_)
  refine lv_aload_n hx hb dX2_makeKnown_12 rfl (lv_at hl 1 rfl) ?_
  refine r_get hx hb hts inX2 hown hK hS 0 4 rfl rfl (by decide) q3 rfl dX2_makeKnown_13 ?_
  refine lv_aload_n hx hb dX2_makeKnown_16 rfl (lv_at hl 1 rfl) ?_
  refine r_get hx hb hts inX2 hown hK hS 0 1 rfl rfl (by decide) q2 rfl dX2_makeKnown_17 ?_
  refine lv_iload_n hx hb dX2_makeKnown_20 rfl (lv_at hl 2 rfl) ?_
  replace hF := cal1_e hF
  obtain ⟨f3, hc4, hF⟩ := hF
  replace hF := bnd_e hF
  obtain ⟨Q_0u5, eQ_0u5, hF⟩ := hF
  refine kN_v (As := [.ref h_0_steps, .int (Q_0 0 1), .int v1]) (rest := []) (wr := [(h_0, oX2 g_0_table g_0_origin h_0_shelf h_0_steps h_0_newest h_0_older Q_0), (h_0_newest, eI cI 256 (Q_0 2)), (h_0_older, eI cI 401 (Q_0 3)), (h_0_shelf, oX3 h_0_shelf_lows h_0_shelf_highs h_0_shelf_places), (h_0_shelf_lows, eJ cJ 401 (S_0_shelf 0)), (h_0_shelf_highs, eJ cJ 401 (S_0_shelf 1)), (h_0_shelf_places, eJ cJ 401 (S_0_shelf 2))]) (w2 := [(h_0, oX2 g_0_table g_0_origin h_0_shelf h_0_steps h_0_newest h_0_older Q_0u5), (h_0_newest, eI cI 256 (Q_0u5 2)), (h_0_older, eI cI 401 (Q_0u5 3)), (h_0_shelf, oX3 h_0_shelf_lows h_0_shelf_highs h_0_shelf_places), (h_0_shelf_lows, eJ cJ 401 (S_0_shelf 0)), (h_0_shelf_highs, eJ cJ 401 (S_0_shelf 1)), (h_0_shelf_places, eJ cJ 401 (S_0_shelf 2)), (h_0_steps, eI cI 401 (Q_0u5 1))]) hCF hK (c_X5_put l D cI cJ h_0_steps 401 (Q_0 1) (Q_0 0 1) v1 f3 hc4) (cwN 3 hK hts (TBL_C mw_116) rfl rfl rfl (host := RX5) (List.mem_of_getElem? (i := 14) rfl) (List.mem_cons_of_mem _ mw_2) (List.mem_cons_of_mem _ mw_115) pmX5_put.2 ⟨Nat.le_of_ble_eq_true rfl, Nat.le_of_ble_eq_true rfl⟩) hS hA [1] [0, 2, 3, 4, 5, 6, 7] rfl rfl rfl rfl (by decide) rfl hl.1 rfl (Nat.le_of_ble_eq_true rfl) ⟨Nat.zero_le _, Nat.zero_le _⟩ dX2_makeKnown_21 (by rw [eQ_0u5]; rfl) (fun H locs hS => ?_)
  refine lv_aload_n hx hb dX2_makeKnown_24 rfl (lv_at hl 1 rfl) ?_
  refine r_get hx hb hts inX2 hown hK hS 0 6 rfl rfl (by decide) q4 rfl dX2_makeKnown_25 ?_
  refine lv_aload_n hx hb dX2_makeKnown_28 rfl (lv_at hl 1 rfl) ?_
  refine r_get hx hb hts inX2 hown hK hS 0 1 rfl rfl (by decide) q2 rfl dX2_makeKnown_29 ?_
  refine lv_aload_n hx hb dX2_makeKnown_32 rfl (lv_at hl 1 rfl) ?_
  refine r_get hx hb hts inX2 hown hK hS 0 5 rfl rfl (by decide) q5 rfl dX2_makeKnown_33 ?_
  refine lv_iload_n hx hb dX2_makeKnown_36 rfl (lv_at hl 0 rfl) ?_
  replace hF := cal1_e hF
  obtain ⟨x6, hc7, hF⟩ := hF
  refine kN_i (As := [.ref h_0_newest, .int x1]) (rest := [.int (Q_0u5 0 1), .ref h_0_older]) (wr := [(h_0, oX2 g_0_table g_0_origin h_0_shelf h_0_steps h_0_newest h_0_older Q_0u5), (h_0_older, eI cI 401 (Q_0u5 3)), (h_0_shelf, oX3 h_0_shelf_lows h_0_shelf_highs h_0_shelf_places), (h_0_shelf_lows, eJ cJ 401 (S_0_shelf 0)), (h_0_shelf_highs, eJ cJ 401 (S_0_shelf 1)), (h_0_shelf_places, eJ cJ 401 (S_0_shelf 2)), (h_0_steps, eI cI 401 (Q_0u5 1))]) (w2 := [(h_0, oX2 g_0_table g_0_origin h_0_shelf h_0_steps h_0_newest h_0_older Q_0u5), (h_0_older, eI cI 401 (Q_0u5 3)), (h_0_shelf, oX3 h_0_shelf_lows h_0_shelf_highs h_0_shelf_places), (h_0_shelf_lows, eJ cJ 401 (S_0_shelf 0)), (h_0_shelf_highs, eJ cJ 401 (S_0_shelf 1)), (h_0_shelf_places, eJ cJ 401 (S_0_shelf 2)), (h_0_steps, eI cI 401 (Q_0u5 1)), (h_0_newest, eI cI 256 (Q_0u5 2))]) hCF hK (c_X5_at l D cI cJ h_0_newest 256 (Q_0u5 2) x1 x6 hc7) (cwN 2 hK hts (TBL_C mw_114) rfl rfl rfl (host := RX5) (List.mem_of_getElem? (i := 15) rfl) (List.mem_cons_of_mem _ mw_2) (List.mem_cons_of_mem _ mw_113) pmX5_at.2 ⟨Nat.le_of_ble_eq_true rfl, Nat.le_of_ble_eq_true rfl⟩) hS hA [1] [0, 2, 3, 4, 5, 6, 7] rfl rfl rfl rfl (by decide) rfl hl.1 rfl (Nat.le_of_ble_eq_true rfl) ⟨Nat.zero_le _, Nat.zero_le _⟩ dX2_makeKnown_37 rfl (fun H locs hS => ?_)
  replace hF := cal1_e hF
  obtain ⟨f8, hc9, hF⟩ := hF
  replace hF := bnd_e hF
  obtain ⟨Q_0u10, eQ_0u10, hF⟩ := hF
  refine kN_v (As := [.ref h_0_older, .int (Q_0u5 0 1), .int x6]) (rest := []) (wr := [(h_0, oX2 g_0_table g_0_origin h_0_shelf h_0_steps h_0_newest h_0_older Q_0u5), (h_0_shelf, oX3 h_0_shelf_lows h_0_shelf_highs h_0_shelf_places), (h_0_shelf_lows, eJ cJ 401 (S_0_shelf 0)), (h_0_shelf_highs, eJ cJ 401 (S_0_shelf 1)), (h_0_shelf_places, eJ cJ 401 (S_0_shelf 2)), (h_0_steps, eI cI 401 (Q_0u5 1)), (h_0_newest, eI cI 256 (Q_0u5 2))]) (w2 := [(h_0, oX2 g_0_table g_0_origin h_0_shelf h_0_steps h_0_newest h_0_older Q_0u10), (h_0_shelf, oX3 h_0_shelf_lows h_0_shelf_highs h_0_shelf_places), (h_0_shelf_lows, eJ cJ 401 (S_0_shelf 0)), (h_0_shelf_highs, eJ cJ 401 (S_0_shelf 1)), (h_0_shelf_places, eJ cJ 401 (S_0_shelf 2)), (h_0_steps, eI cI 401 (Q_0u10 1)), (h_0_newest, eI cI 256 (Q_0u10 2)), (h_0_older, eI cI 401 (Q_0u10 3))]) hCF hK (c_X5_put l D cI cJ h_0_older 401 (Q_0u5 3) (Q_0u5 0 1) x6 f8 hc9) (cwN 3 hK hts (TBL_C mw_116) rfl rfl rfl (host := RX5) (List.mem_of_getElem? (i := 14) rfl) (List.mem_cons_of_mem _ mw_2) (List.mem_cons_of_mem _ mw_115) pmX5_put.2 ⟨Nat.le_of_ble_eq_true rfl, Nat.le_of_ble_eq_true rfl⟩) hS hA [1] [0, 2, 3, 4, 5, 6, 7] rfl rfl rfl rfl (by decide) rfl hl.1 rfl (Nat.le_of_ble_eq_true rfl) ⟨Nat.zero_le _, Nat.zero_le _⟩ dX2_makeKnown_40 (by rw [eQ_0u10]; rfl) (fun H locs hS => ?_)
  refine lv_aload_n hx hb dX2_makeKnown_43 rfl (lv_at hl 1 rfl) ?_
  refine r_get hx hb hts inX2 hown hK hS 0 5 rfl rfl (by decide) q5 rfl dX2_makeKnown_44 ?_
  refine lv_iload_n hx hb dX2_makeKnown_47 rfl (lv_at hl 0 rfl) ?_
  refine lv_aload_n hx hb dX2_makeKnown_48 rfl (lv_at hl 1 rfl) ?_
  refine r_get hx hb hts inX2 hown hK hS 0 1 rfl rfl (by decide) q2 rfl dX2_makeKnown_49 ?_
  replace hF := cal1_e hF
  obtain ⟨f11, hc12, hF⟩ := hF
  replace hF := bnd_e hF
  obtain ⟨Q_0u13, eQ_0u13, hF⟩ := hF
  refine kN_v (As := [.ref h_0_newest, .int x1, .int (Q_0u10 0 1)]) (rest := []) (wr := [(h_0, oX2 g_0_table g_0_origin h_0_shelf h_0_steps h_0_newest h_0_older Q_0u10), (h_0_shelf, oX3 h_0_shelf_lows h_0_shelf_highs h_0_shelf_places), (h_0_shelf_lows, eJ cJ 401 (S_0_shelf 0)), (h_0_shelf_highs, eJ cJ 401 (S_0_shelf 1)), (h_0_shelf_places, eJ cJ 401 (S_0_shelf 2)), (h_0_steps, eI cI 401 (Q_0u10 1)), (h_0_older, eI cI 401 (Q_0u10 3))]) (w2 := [(h_0, oX2 g_0_table g_0_origin h_0_shelf h_0_steps h_0_newest h_0_older Q_0u13), (h_0_shelf, oX3 h_0_shelf_lows h_0_shelf_highs h_0_shelf_places), (h_0_shelf_lows, eJ cJ 401 (S_0_shelf 0)), (h_0_shelf_highs, eJ cJ 401 (S_0_shelf 1)), (h_0_shelf_places, eJ cJ 401 (S_0_shelf 2)), (h_0_steps, eI cI 401 (Q_0u13 1)), (h_0_older, eI cI 401 (Q_0u13 3)), (h_0_newest, eI cI 256 (Q_0u13 2))]) hCF hK (c_X5_put l D cI cJ h_0_newest 256 (Q_0u10 2) x1 (Q_0u10 0 1) f11 hc12) (cwN 3 hK hts (TBL_C mw_116) rfl rfl rfl (host := RX5) (List.mem_of_getElem? (i := 14) rfl) (List.mem_cons_of_mem _ mw_2) (List.mem_cons_of_mem _ mw_115) pmX5_put.2 ⟨Nat.le_of_ble_eq_true rfl, Nat.le_of_ble_eq_true rfl⟩) hS hA [6] [0, 1, 2, 3, 4, 5, 7] rfl rfl rfl rfl (by decide) rfl hl.1 rfl (Nat.le_of_ble_eq_true rfl) ⟨Nat.zero_le _, Nat.zero_le _⟩ dX2_makeKnown_52 (by rw [eQ_0u13]; rfl) (fun H locs hS => ?_)
  refine lv_aload_n hx hb dX2_makeKnown_55 rfl (lv_at hl 1 rfl) ?_
  refine lv_dup hx hb dX2_makeKnown_56 rfl ?_
  refine r_get hx hb hts inX2 hown hK hS 0 1 rfl rfl (by decide) q2 rfl dX2_makeKnown_57 ?_
  refine lv_iconst (v := (nI 1)) hx hb dX2_makeKnown_60 (by decide) ?_
  refine lv_iadd hx hb dX2_makeKnown_61 ?_
  replace hF := bnd_e hF
  obtain ⟨Q_0u14, eQ_0u14, hF⟩ := hF
  refine r_put (w2 := [(h_0, oX2 g_0_table g_0_origin h_0_shelf h_0_steps h_0_newest h_0_older Q_0u14), (h_0_shelf, oX3 h_0_shelf_lows h_0_shelf_highs h_0_shelf_places), (h_0_shelf_lows, eJ cJ 401 (S_0_shelf 0)), (h_0_shelf_highs, eJ cJ 401 (S_0_shelf 1)), (h_0_shelf_places, eJ cJ 401 (S_0_shelf 2)), (h_0_steps, eI cI 401 (Q_0u14 1)), (h_0_older, eI cI 401 (Q_0u14 3)), (h_0_newest, eI cI 256 (Q_0u14 2))]) hx hb hts inX2 tyX2 tyX2_ok nmX2 hown hK hS 0 1 rfl rfl (by decide) q2 rfl rfl rfl (Nat.le_of_ble_eq_true rfl) dX2_makeKnown_62 (by rw [eQ_0u14]; rfl) (fun H locs hS => ?_)
  have e9_0 := Option.some.inj hF
  subst e9_0
  exact kret _ _ _ _ (hS.sub [0, 5, 7, 6, 1, 2, 3, 4] rfl rfl) dX2_makeKnown_65
set_option maxHeartbeats 4000000 in
set_option maxRecDepth 100000 in
theorem c_X3_fetch (l : Launch) (D : va_G) (cI cJ : ClassId) (h_0 h_0_lows h_0_highs h_0_places h_2 h_2_lies h_2_tops h_2_list g_2_rules : Nat) (n_0 : Nat) (S_0 : Nat → Nat → Int64) (T_2 : Nat → Nat → Int32) (v1 : Int32) (r_T_2 : Nat → Nat → Int32) (hF : F_X3_fetch S_0 n_0 T_2 v1 = some r_T_2) : CtV l D [(cI, .int), (cJ, .long)] yX3_fetch wtX3_fetch ({ frames := 2, cells := 0, slots := 0, locals := 48 } : Room) [.ref h_0, .int v1, .ref h_2] [(h_0, oX3 h_0_lows h_0_highs h_0_places), (h_0_lows, eJ cJ n_0 (S_0 0)), (h_0_highs, eJ cJ n_0 (S_0 1)), (h_0_places, eJ cJ n_0 (S_0 2)), (h_2, oX4 g_2_rules h_2_lies h_2_tops h_2_list T_2), (h_2_lies, eI cI 16 (T_2 1)), (h_2_tops, eI cI 10 (T_2 2)), (h_2_list, eI cI 160 (T_2 3))] [(h_0, oX3 h_0_lows h_0_highs h_0_places), (h_0_lows, eJ cJ n_0 (S_0 0)), (h_0_highs, eJ cJ n_0 (S_0 1)), (h_0_places, eJ cJ n_0 (S_0 2)), (h_2, oX4 g_2_rules h_2_lies h_2_tops h_2_list r_T_2), (h_2_lies, eI cI 16 (r_T_2 1)), (h_2_tops, eI cI 10 (r_T_2 2)), (h_2_list, eI cI 160 (r_T_2 3))] := by
  refine CtV.of (cc := cX3_fetch) (maxL := 3) (by decide) rfl (Nat.le_of_ble_eq_true rfl) ?_
  intro p e s m args below meth c A H0 Q ls X hS hl kret
  have hCF := X.1
  obtain ⟨⟨hx, hb, hml, hown, hts⟩, hK, hA⟩ := X
  have hl : lv_has ls 3 [(0, .ref h_0), (1, .int v1), (2, .ref h_2)] := hl
  have q0 := hts (.fieldLink RX3 15 "Patiencery$Shelf" "lows" "[J") (List.mem_cons_of_mem _ mw_68)
  have inX3 : ∀ w ∈ u_ws RX3 TX3 3, w ∈ wtX3_fetch := fun w h => List.mem_cons_of_mem _ (inlX3 w h)
  have q2 := hts (.fieldLink RX3 31 "Patiencery$Table" "hidden" "I") (List.mem_cons_of_mem _ mw_335)
  have inX4 : ∀ w ∈ u_ws RX4 TX4 7, w ∈ wtX3_fetch := fun w h => List.mem_cons_of_mem _ (inlX4 w h)
  have q4 := hts (.fieldLink RX3 21 "Patiencery$Shelf" "highs" "[J") (List.mem_cons_of_mem _ mw_69)
  have q5 := hts (.fieldLink RX3 41 "Patiencery$Table" "turned" "I") (List.mem_cons_of_mem _ mw_336)
  have q6 := hts (.fieldLink RX3 24 "Patiencery$Shelf" "places" "[J") (List.mem_cons_of_mem _ mw_70)
  unfold F_X3_fetch at hF
  refine lv_aload_n hx hb dX3_fetch_0 rfl (lv_at hl 0 rfl) ?_
  refine lv_iload_n hx hb dX3_fetch_1 rfl (lv_at hl 1 rfl) ?_
  replace hF := cal1_e hF
  obtain ⟨x1, hc2, hF⟩ := hF
  refine kV_i (As := [.int v1]) (rest := []) (wr := [(h_2, oX4 g_2_rules h_2_lies h_2_tops h_2_list T_2), (h_2_lies, eI cI 16 (T_2 1)), (h_2_tops, eI cI 10 (T_2 2)), (h_2_list, eI cI 160 (T_2 3))]) (w2 := [(h_2, oX4 g_2_rules h_2_lies h_2_tops h_2_list T_2), (h_2_lies, eI cI 16 (T_2 1)), (h_2_tops, eI cI 10 (T_2 2)), (h_2_list, eI cI 160 (T_2 3)), (h_0, oX3 h_0_lows h_0_highs h_0_places), (h_0_lows, eJ cJ n_0 (S_0 0)), (h_0_highs, eJ cJ n_0 (S_0 1)), (h_0_places, eJ cJ n_0 (S_0 2))]) hCF hK (c_X3_isRow l D cI cJ h_0 h_0_lows h_0_highs h_0_places n_0 S_0 v1 x1 hc2) (cwV 1 hts (TBL_V mw_337 mw_338 mw_339 mw_21 mw_340) rfl rfl rfl pmX3_isRow ⟨Nat.le_of_ble_eq_true rfl, Nat.le_of_ble_eq_true rfl⟩) hS hA [0, 1, 2, 3] [4, 5, 6, 7] rfl rfl rfl rfl (by decide) rfl rfl rfl hl.1 rfl (Nat.le_of_ble_eq_true rfl) ⟨Nat.zero_le _, Nat.zero_le _⟩ dX3_fetch_2 rfl (fun H locs hS => ?_)
  refine lv_if_ne (tgt := 9) hx hb dX3_fetch_5 (by decide) (fun c_3 => ?_) (fun c_3 => ?_)
  · replace hF := ifn hF c_3
    refine lv_aload_n hx hb dX3_fetch_9 rfl (lv_at hl 2 rfl) ?_
    refine lv_aload_n hx hb dX3_fetch_10 rfl (lv_at hl 2 rfl) ?_
    refine lv_aload_n hx hb dX3_fetch_11 rfl (lv_at hl 0 rfl) ?_
    refine r_get hx hb hts inX3 hown hK hS 4 0 rfl rfl (by decide) q0 rfl dX3_fetch_12 ?_
    refine lv_iload_n hx hb dX3_fetch_15 rfl (lv_at hl 1 rfl) ?_
    replace hF := rdA_e hF
    obtain ⟨hi5, x4, ex4, hF⟩ := hF
    refine r_lald hx hb hK hS 5 rfl rfl hi5 dX3_fetch_16 ex4 ?_
    refine lv_iconst (v := (nI 0)) hx hb dX3_fetch_17 (by decide) ?_
    refine lv_bipush (v := (nI 8)) hx hb dX3_fetch_18 (by decide) ?_
    replace hF := cal2_e hF
    obtain ⟨x6, T_2u7, hc8, hF⟩ := hF
    refine kV_i (As := [.long x4, .int (nI 0), .int (nI 8)]) (rest := [.ref h_2]) (wr := [(h_0, oX3 h_0_lows h_0_highs h_0_places), (h_0_lows, eJ cJ n_0 (S_0 0)), (h_0_highs, eJ cJ n_0 (S_0 1)), (h_0_places, eJ cJ n_0 (S_0 2))]) (w2 := [(h_0, oX3 h_0_lows h_0_highs h_0_places), (h_0_lows, eJ cJ n_0 (S_0 0)), (h_0_highs, eJ cJ n_0 (S_0 1)), (h_0_places, eJ cJ n_0 (S_0 2)), (h_2, oX4 g_2_rules h_2_lies h_2_tops h_2_list T_2u7), (h_2_lies, eI cI 16 (T_2u7 1)), (h_2_tops, eI cI 10 (T_2u7 2)), (h_2_list, eI cI 160 (T_2u7 3))]) hCF hK (c_X4_unpacked l D cI cJ h_2 h_2_lies h_2_tops h_2_list g_2_rules T_2 x4 (nI 0) (nI 8) x6 T_2u7 hc8) (cwV 3 hts (TBL_V mw_375 mw_376 mw_377 mw_17 mw_378) rfl rfl rfl pmX4_unpacked ⟨Nat.le_of_ble_eq_true rfl, Nat.le_of_ble_eq_true rfl⟩) hS hA [0, 1, 2, 3] [4, 5, 6, 7] rfl rfl rfl rfl (by decide) rfl rfl rfl hl.1 rfl (Nat.le_of_ble_eq_true rfl) ⟨Nat.zero_le _, Nat.zero_le _⟩ dX3_fetch_20 rfl (fun H locs hS => ?_)
    replace hF := bnd_e hF
    obtain ⟨T_2u9, eT_2u9, hF⟩ := hF
    refine r_put (w2 := [(h_0, oX3 h_0_lows h_0_highs h_0_places), (h_0_lows, eJ cJ n_0 (S_0 0)), (h_0_highs, eJ cJ n_0 (S_0 1)), (h_0_places, eJ cJ n_0 (S_0 2)), (h_2, oX4 g_2_rules h_2_lies h_2_tops h_2_list T_2u9), (h_2_lies, eI cI 16 (T_2u9 1)), (h_2_tops, eI cI 10 (T_2u9 2)), (h_2_list, eI cI 160 (T_2u9 3))]) hx hb hts inX4 tyX4 tyX4_ok nmX4 hown hK hS 4 5 rfl rfl (by decide) q2 rfl rfl rfl (Nat.le_of_ble_eq_true rfl) dX3_fetch_23 (by rw [eT_2u9]; rfl) (fun H locs hS => ?_)
    refine lv_aload_n hx hb dX3_fetch_26 rfl (lv_at hl 2 rfl) ?_
    refine lv_aload_n hx hb dX3_fetch_27 rfl (lv_at hl 2 rfl) ?_
    refine lv_aload_n hx hb dX3_fetch_28 rfl (lv_at hl 0 rfl) ?_
    refine r_get hx hb hts inX3 hown hK hS 0 1 rfl rfl (by decide) q4 rfl dX3_fetch_29 ?_
    refine lv_iload_n hx hb dX3_fetch_32 rfl (lv_at hl 1 rfl) ?_
    replace hF := rdA_e hF
    obtain ⟨hi11, x10, ex10, hF⟩ := hF
    refine r_lald hx hb hK hS 2 rfl rfl hi11 dX3_fetch_33 ex10 ?_
    refine lv_bipush (v := (nI 8)) hx hb dX3_fetch_34 (by decide) ?_
    refine lv_bipush (v := (nI 16)) hx hb dX3_fetch_36 (by decide) ?_
    replace hF := cal2_e hF
    obtain ⟨x12, T_2u13, hc14, hF⟩ := hF
    refine kV_i (As := [.long x10, .int (nI 8), .int (nI 16)]) (rest := [.ref h_2]) (wr := [(h_0, oX3 h_0_lows h_0_highs h_0_places), (h_0_lows, eJ cJ n_0 (S_0 0)), (h_0_highs, eJ cJ n_0 (S_0 1)), (h_0_places, eJ cJ n_0 (S_0 2))]) (w2 := [(h_0, oX3 h_0_lows h_0_highs h_0_places), (h_0_lows, eJ cJ n_0 (S_0 0)), (h_0_highs, eJ cJ n_0 (S_0 1)), (h_0_places, eJ cJ n_0 (S_0 2)), (h_2, oX4 g_2_rules h_2_lies h_2_tops h_2_list T_2u13), (h_2_lies, eI cI 16 (T_2u13 1)), (h_2_tops, eI cI 10 (T_2u13 2)), (h_2_list, eI cI 160 (T_2u13 3))]) hCF hK (c_X4_unpacked l D cI cJ h_2 h_2_lies h_2_tops h_2_list g_2_rules T_2u9 x10 (nI 8) (nI 16) x12 T_2u13 hc14) (cwV 3 hts (TBL_V mw_375 mw_376 mw_377 mw_17 mw_378) rfl rfl rfl pmX4_unpacked ⟨Nat.le_of_ble_eq_true rfl, Nat.le_of_ble_eq_true rfl⟩) hS hA [4, 5, 6, 7] [0, 1, 2, 3] rfl rfl rfl rfl (by decide) rfl rfl rfl hl.1 rfl (Nat.le_of_ble_eq_true rfl) ⟨Nat.zero_le _, Nat.zero_le _⟩ dX3_fetch_38 rfl (fun H locs hS => ?_)
    replace hF := bnd_e hF
    obtain ⟨T_2u15, eT_2u15, hF⟩ := hF
    refine r_put (w2 := [(h_0, oX3 h_0_lows h_0_highs h_0_places), (h_0_lows, eJ cJ n_0 (S_0 0)), (h_0_highs, eJ cJ n_0 (S_0 1)), (h_0_places, eJ cJ n_0 (S_0 2)), (h_2, oX4 g_2_rules h_2_lies h_2_tops h_2_list T_2u15), (h_2_lies, eI cI 16 (T_2u15 1)), (h_2_tops, eI cI 10 (T_2u15 2)), (h_2_list, eI cI 160 (T_2u15 3))]) hx hb hts inX4 tyX4 tyX4_ok nmX4 hown hK hS 4 6 rfl rfl (by decide) q5 rfl rfl rfl (Nat.le_of_ble_eq_true rfl) dX3_fetch_41 (by rw [eT_2u15]; rfl) (fun H locs hS => ?_)
    refine lv_aload_n hx hb dX3_fetch_44 rfl (lv_at hl 2 rfl) ?_
    refine lv_aload_n hx hb dX3_fetch_45 rfl (lv_at hl 0 rfl) ?_
    refine r_get hx hb hts inX3 hown hK hS 0 2 rfl rfl (by decide) q6 rfl dX3_fetch_46 ?_
    refine lv_iload_n hx hb dX3_fetch_49 rfl (lv_at hl 1 rfl) ?_
    replace hF := rdA_e hF
    obtain ⟨hi17, x16, ex16, hF⟩ := hF
    refine r_lald hx hb hK hS 3 rfl rfl hi17 dX3_fetch_50 ex16 ?_
    replace hF := cal1_e hF
    obtain ⟨T_2u18, hc19, hF⟩ := hF
    refine kV_v (As := [.long x16]) (rest := []) (wr := [(h_0, oX3 h_0_lows h_0_highs h_0_places), (h_0_lows, eJ cJ n_0 (S_0 0)), (h_0_highs, eJ cJ n_0 (S_0 1)), (h_0_places, eJ cJ n_0 (S_0 2))]) (w2 := [(h_0, oX3 h_0_lows h_0_highs h_0_places), (h_0_lows, eJ cJ n_0 (S_0 0)), (h_0_highs, eJ cJ n_0 (S_0 1)), (h_0_places, eJ cJ n_0 (S_0 2)), (h_2, oX4 g_2_rules h_2_lies h_2_tops h_2_list T_2u18), (h_2_lies, eI cI 16 (T_2u18 1)), (h_2_tops, eI cI 10 (T_2u18 2)), (h_2_list, eI cI 160 (T_2u18 3))]) hCF hK (c_X4_unpackTops l D cI cJ h_2 h_2_lies h_2_tops h_2_list g_2_rules T_2u15 x16 T_2u18 hc19) (cwV 1 hts (TBL_V mw_380 mw_381 mw_382 mw_17 mw_383) rfl rfl rfl pmX4_unpackTops ⟨Nat.le_of_ble_eq_true rfl, Nat.le_of_ble_eq_true rfl⟩) hS hA [4, 5, 6, 7] [0, 1, 2, 3] rfl rfl rfl rfl (by decide) rfl rfl rfl hl.1 rfl (Nat.le_of_ble_eq_true rfl) ⟨Nat.zero_le _, Nat.zero_le _⟩ dX3_fetch_51 rfl (fun H locs hS => ?_)
    have e9_0 := Option.some.inj hF
    subst e9_0
    exact kret _ _ _ _ hS dX3_fetch_54
  · replace hF := ifp hF c_3
    have e9_0 := Option.some.inj hF
    subst e9_0
    exact kret _ _ _ _ (hS.sub [4, 5, 6, 7, 0, 1, 2, 3] rfl rfl) dX3_fetch_8
set_option maxHeartbeats 4000000 in
set_option maxRecDepth 100000 in
theorem c_X3_areSame (l : Launch) (D : va_G) (cI cJ : ClassId) (h_0 h_0_lows h_0_highs h_0_places : Nat) (n_0 : Nat) (S_0 : Nat → Nat → Int64) (v1 : Int32) (v2 : Int32) (rv : Int32) (hF : F_X3_areSame S_0 n_0 v1 v2 = some rv) : CtI l D [(cI, .int), (cJ, .long)] yX3_areSame wtX3_areSame ({ frames := 1, cells := 0, slots := 0, locals := 21 } : Room) [.ref h_0, .int v1, .int v2] [(h_0, oX3 h_0_lows h_0_highs h_0_places), (h_0_lows, eJ cJ n_0 (S_0 0)), (h_0_highs, eJ cJ n_0 (S_0 1)), (h_0_places, eJ cJ n_0 (S_0 2))] [(h_0, oX3 h_0_lows h_0_highs h_0_places), (h_0_lows, eJ cJ n_0 (S_0 0)), (h_0_highs, eJ cJ n_0 (S_0 1)), (h_0_places, eJ cJ n_0 (S_0 2))] rv := by
  refine CtZ.of (cc := cX3_areSame) (maxL := 3) (by decide) rfl (Nat.le_of_ble_eq_true rfl) ?_
  intro p e s m args below meth c A H0 Q ls X hS hl kret
  have hCF := X.1
  obtain ⟨⟨hx, hb, hml, hown, hts⟩, hK, hA⟩ := X
  have hl : lv_has ls 3 [(0, .ref h_0), (1, .int v1), (2, .int v2)] := hl
  have q0 := hts (.fieldLink RX3 15 "Patiencery$Shelf" "lows" "[J") (List.mem_cons_of_mem _ mw_68)
  have inX3 : ∀ w ∈ u_ws RX3 TX3 3, w ∈ wtX3_areSame := fun w h => List.mem_cons_of_mem _ (inlX3 w h)
  have q2 := hts (.fieldLink RX3 21 "Patiencery$Shelf" "highs" "[J") (List.mem_cons_of_mem _ mw_69)
  unfold F_X3_areSame at hF
  refine lv_aload_n hx hb dX3_areSame_0 rfl (lv_at hl 0 rfl) ?_
  refine lv_iload_n hx hb dX3_areSame_1 rfl (lv_at hl 1 rfl) ?_
  replace hF := cal1_e hF
  obtain ⟨x1, hc2, hF⟩ := hF
  refine kV_i (As := [.int v1]) (rest := []) (wr := []) (w2 := [(h_0, oX3 h_0_lows h_0_highs h_0_places), (h_0_lows, eJ cJ n_0 (S_0 0)), (h_0_highs, eJ cJ n_0 (S_0 1)), (h_0_places, eJ cJ n_0 (S_0 2))]) hCF hK (c_X3_isRow l D cI cJ h_0 h_0_lows h_0_highs h_0_places n_0 S_0 v1 x1 hc2) (cwV 1 hts (TBL_V mw_337 mw_338 mw_339 mw_21 mw_340) rfl rfl rfl pmX3_isRow ⟨Nat.le_of_ble_eq_true rfl, Nat.le_of_ble_eq_true rfl⟩) hS hA [0, 1, 2, 3] [] rfl rfl rfl rfl (by decide) rfl rfl rfl hl.1 rfl (Nat.le_of_ble_eq_true rfl) ⟨Nat.zero_le _, Nat.zero_le _⟩ dX3_areSame_2 rfl (fun H locs hS => ?_)
  refine lv_if_eq (tgt := 52) hx hb dX3_areSame_5 (by decide) (fun c_3 => ?_) (fun c_3 => ?_)
  · replace hF := ifp hF c_3
    refine lv_iconst (v := (nI 0)) hx hb dX3_areSame_52 (by decide) ?_
    replace hF := zb_e hF
    obtain ⟨h01_4, hF⟩ := hF
    have e9_0 := Option.some.inj hF
    subst e9_0
    exact kret _ _ _ _ h01_4 hS dX3_areSame_53
  · replace hF := ifn hF c_3
    refine lv_aload_n hx hb dX3_areSame_8 rfl (lv_at hl 0 rfl) ?_
    refine lv_iload_n hx hb dX3_areSame_9 rfl (lv_at hl 2 rfl) ?_
    replace hF := cal1_e hF
    obtain ⟨x5, hc6, hF⟩ := hF
    refine kV_i (As := [.int v2]) (rest := []) (wr := []) (w2 := [(h_0, oX3 h_0_lows h_0_highs h_0_places), (h_0_lows, eJ cJ n_0 (S_0 0)), (h_0_highs, eJ cJ n_0 (S_0 1)), (h_0_places, eJ cJ n_0 (S_0 2))]) hCF hK (c_X3_isRow l D cI cJ h_0 h_0_lows h_0_highs h_0_places n_0 S_0 v2 x5 hc6) (cwV 1 hts (TBL_V mw_337 mw_338 mw_339 mw_21 mw_340) rfl rfl rfl pmX3_isRow ⟨Nat.le_of_ble_eq_true rfl, Nat.le_of_ble_eq_true rfl⟩) hS hA [0, 1, 2, 3] [] rfl rfl rfl rfl (by decide) rfl rfl rfl hl.1 rfl (Nat.le_of_ble_eq_true rfl) ⟨Nat.zero_le _, Nat.zero_le _⟩ dX3_areSame_10 rfl (fun H locs hS => ?_)
    refine lv_if_eq (tgt := 52) hx hb dX3_areSame_13 (by decide) (fun c_7 => ?_) (fun c_7 => ?_)
    · replace hF := ifp hF c_7
      refine lv_iconst (v := (nI 0)) hx hb dX3_areSame_52 (by decide) ?_
      replace hF := zb_e hF
      obtain ⟨h01_8, hF⟩ := hF
      have e9_0 := Option.some.inj hF
      subst e9_0
      exact kret _ _ _ _ h01_8 hS dX3_areSame_53
    · replace hF := ifn hF c_7
      refine lv_aload_n hx hb dX3_areSame_16 rfl (lv_at hl 0 rfl) ?_
      refine r_get hx hb hts inX3 hown hK hS 0 0 rfl rfl (by decide) q0 rfl dX3_areSame_17 ?_
      refine lv_iload_n hx hb dX3_areSame_20 rfl (lv_at hl 1 rfl) ?_
      replace hF := rdA_e hF
      obtain ⟨hi10, x9, ex9, hF⟩ := hF
      refine r_lald hx hb hK hS 1 rfl rfl hi10 dX3_areSame_21 ex9 ?_
      refine lv_aload_n hx hb dX3_areSame_22 rfl (lv_at hl 0 rfl) ?_
      refine r_get hx hb hts inX3 hown hK hS 0 0 rfl rfl (by decide) q0 rfl dX3_areSame_23 ?_
      refine lv_iload_n hx hb dX3_areSame_26 rfl (lv_at hl 2 rfl) ?_
      replace hF := rdA_e hF
      obtain ⟨hi12, x11, ex11, hF⟩ := hF
      refine r_lald hx hb hK hS 1 rfl rfl hi12 dX3_areSame_27 ex11 ?_
      refine W.lcmp hx hb dX3_areSame_28 ?_
      refine lv_if_ne (tgt := 52) hx hb dX3_areSame_29 (by decide) (fun c_13 => ?_) (fun c_13 => ?_)
      · replace hF := ifn hF c_13
        refine lv_iconst (v := (nI 0)) hx hb dX3_areSame_52 (by decide) ?_
        replace hF := zb_e hF
        obtain ⟨h01_14, hF⟩ := hF
        have e9_0 := Option.some.inj hF
        subst e9_0
        exact kret _ _ _ _ h01_14 hS dX3_areSame_53
      · replace hF := ifp hF c_13
        refine lv_aload_n hx hb dX3_areSame_32 rfl (lv_at hl 0 rfl) ?_
        refine r_get hx hb hts inX3 hown hK hS 0 1 rfl rfl (by decide) q2 rfl dX3_areSame_33 ?_
        refine lv_iload_n hx hb dX3_areSame_36 rfl (lv_at hl 1 rfl) ?_
        replace hF := rdA_e hF
        obtain ⟨hi16, x15, ex15, hF⟩ := hF
        refine r_lald hx hb hK hS 2 rfl rfl hi16 dX3_areSame_37 ex15 ?_
        refine lv_aload_n hx hb dX3_areSame_38 rfl (lv_at hl 0 rfl) ?_
        refine r_get hx hb hts inX3 hown hK hS 0 1 rfl rfl (by decide) q2 rfl dX3_areSame_39 ?_
        refine lv_iload_n hx hb dX3_areSame_42 rfl (lv_at hl 2 rfl) ?_
        replace hF := rdA_e hF
        obtain ⟨hi18, x17, ex17, hF⟩ := hF
        refine r_lald hx hb hK hS 2 rfl rfl hi18 dX3_areSame_43 ex17 ?_
        refine W.lcmp hx hb dX3_areSame_44 ?_
        refine lv_if_ne (tgt := 52) hx hb dX3_areSame_45 (by decide) (fun c_19 => ?_) (fun c_19 => ?_)
        · replace hF := ifn hF c_19
          refine lv_iconst (v := (nI 0)) hx hb dX3_areSame_52 (by decide) ?_
          replace hF := zb_e hF
          obtain ⟨h01_20, hF⟩ := hF
          have e9_0 := Option.some.inj hF
          subst e9_0
          exact kret _ _ _ _ h01_20 hS dX3_areSame_53
        · replace hF := ifp hF c_19
          refine lv_iconst (v := (nI 1)) hx hb dX3_areSame_48 (by decide) ?_
          refine lv_goto (tgt := 53) hx hb dX3_areSame_49 (by decide) ?_
          replace hF := zb_e hF
          obtain ⟨h01_21, hF⟩ := hF
          have e9_0 := Option.some.inj hF
          subst e9_0
          exact kret _ _ _ _ h01_21 hS dX3_areSame_53
set_option maxHeartbeats 4000000 in
set_option maxRecDepth 100000 in
theorem c_X2_isKnownAlready (l : Launch) (D : va_G) (cI cJ : ClassId) (h_0 h_0_steps h_0_newest h_0_older h_0_shelf h_0_shelf_lows h_0_shelf_highs h_0_shelf_places g_0_table g_0_origin : Nat) (Q_0 : Nat → Nat → Int32) (S_0_shelf : Nat → Nat → Int64) (rv : Int32) (hF : F_X2_isKnownAlready Q_0 S_0_shelf = some rv) : CtI l D [(cI, .int), (cJ, .long)] yX2_isKnownAlready wtX2_isKnownAlready ({ frames := 2, cells := 0, slots := 0, locals := 44 } : Room) [.ref h_0] [(h_0, oX2 g_0_table g_0_origin h_0_shelf h_0_steps h_0_newest h_0_older Q_0), (h_0_steps, eI cI 401 (Q_0 1)), (h_0_newest, eI cI 256 (Q_0 2)), (h_0_older, eI cI 401 (Q_0 3)), (h_0_shelf, oX3 h_0_shelf_lows h_0_shelf_highs h_0_shelf_places), (h_0_shelf_lows, eJ cJ 401 (S_0_shelf 0)), (h_0_shelf_highs, eJ cJ 401 (S_0_shelf 1)), (h_0_shelf_places, eJ cJ 401 (S_0_shelf 2))] [(h_0, oX2 g_0_table g_0_origin h_0_shelf h_0_steps h_0_newest h_0_older Q_0), (h_0_steps, eI cI 401 (Q_0 1)), (h_0_newest, eI cI 256 (Q_0 2)), (h_0_older, eI cI 401 (Q_0 3)), (h_0_shelf, oX3 h_0_shelf_lows h_0_shelf_highs h_0_shelf_places), (h_0_shelf_lows, eJ cJ 401 (S_0_shelf 0)), (h_0_shelf_highs, eJ cJ 401 (S_0_shelf 1)), (h_0_shelf_places, eJ cJ 401 (S_0_shelf 2))] rv := by
  refine CtZ.of (cc := cX2_isKnownAlready) (maxL := 3) (by decide) rfl (Nat.le_of_ble_eq_true rfl) ?_
  intro p e s m args below meth c A H0 Q ls X hS hl kret
  have hCF := X.1
  obtain ⟨⟨hx, hb, hml, hown, hts⟩, hK, hA⟩ := X
  have hl : lv_has ls 3 [(0, .ref h_0)] := hl
  have q0 := hts (.fieldLink RX2 30 "Patiencery$Searcher" "shelf" "LPatiencery$Shelf;") (List.mem_cons_of_mem _ mw_79)
  have inX2 : ∀ w ∈ u_ws RX2 TX2 7, w ∈ wtX2_isKnownAlready := fun w h => List.mem_cons_of_mem _ (inlX2 w h)
  have q2 := hts (.fieldLink RX2 18 "Patiencery$Searcher" "count" "I") (List.mem_cons_of_mem _ mw_76)
  have q3 := hts (.fieldLink RX2 41 "Patiencery$Searcher" "older" "[I") (List.mem_cons_of_mem _ mw_82)
  have q4 := hts (.fieldLink RX2 38 "Patiencery$Searcher" "newest" "[I") (List.mem_cons_of_mem _ mw_81)
  have S21 : ∀ (K21 : Int32 → Int32 → Option (Int32)) (_ : ∀ (v1 : Int32) (v2 : Int32) (H : Heap) (locs : List Loc) (ls : Array Slot), HS D A H0 [(h_0, oX2 g_0_table g_0_origin h_0_shelf h_0_steps h_0_newest h_0_older Q_0), (h_0_steps, eI cI 401 (Q_0 1)), (h_0_newest, eI cI 256 (Q_0 2)), (h_0_older, eI cI 401 (Q_0 3)), (h_0_shelf, oX3 h_0_shelf_lows h_0_shelf_highs h_0_shelf_places), (h_0_shelf_lows, eJ cJ 401 (S_0_shelf 0)), (h_0_shelf_highs, eJ cJ 401 (S_0_shelf 1)), (h_0_shelf_places, eJ cJ 401 (S_0_shelf 2))] H locs → lv_has ls 3 [(0, .ref h_0), (1, .int v1), (2, .int v2)] → K21 v1 v2 = some rv → W p l e ({ frames := 2, cells := 0, slots := 0, locals := 44 } : Room) s m args below meth c H locs 0 0 Q (F0 m 21 ls [])) (v1 : Int32) (v2 : Int32) (H : Heap) (locs : List Loc) (ls : Array Slot), HS D A H0 [(h_0, oX2 g_0_table g_0_origin h_0_shelf h_0_steps h_0_newest h_0_older Q_0), (h_0_steps, eI cI 401 (Q_0 1)), (h_0_newest, eI cI 256 (Q_0 2)), (h_0_older, eI cI 401 (Q_0 3)), (h_0_shelf, oX3 h_0_shelf_lows h_0_shelf_highs h_0_shelf_places), (h_0_shelf_lows, eJ cJ 401 (S_0_shelf 0)), (h_0_shelf_highs, eJ cJ 401 (S_0_shelf 1)), (h_0_shelf_places, eJ cJ 401 (S_0_shelf 2))] H locs → lv_has ls 3 [(0, .ref h_0), (1, .int v1), (2, .int v2)] → F_X2_isKnownAlready_s21 Q_0 S_0_shelf K21 v1 v2 = some rv → W p l e ({ frames := 2, cells := 0, slots := 0, locals := 44 } : Room) s m args below meth c H locs 0 0 Q (F0 m 21 ls []) := by
    intro K21 hK21 v1 v2 H locs ls hS hl hF
    unfold F_X2_isKnownAlready_s21 at hF
    refine lv_iload_n hx hb dX2_isKnownAlready_21 rfl (lv_at hl 2 rfl) ?_
    refine lv_sipush (v := (nI 400)) hx hb dX2_isKnownAlready_22 (by decide) ?_
    refine lv_icmp_ge (tgt := 65) hx hb dX2_isKnownAlready_25 (by decide) (fun c_1 => ?_) (fun c_1 => ?_)
    · replace hF := ifp hF c_1
      refine lv_iconst (v := (nI 0)) hx hb dX2_isKnownAlready_65 (by decide) ?_
      replace hF := zb_e hF
      obtain ⟨h01_2, hF⟩ := hF
      have e9_0 := Option.some.inj hF
      subst e9_0
      exact kret _ _ _ _ h01_2 hS dX2_isKnownAlready_66
    · replace hF := ifn hF c_1
      refine lv_iload_n hx hb dX2_isKnownAlready_28 rfl (lv_at hl 1 rfl) ?_
      refine lv_iconst (v := (-1)) hx hb dX2_isKnownAlready_29 (by decide) ?_
      refine lv_icmp_eq (tgt := 65) hx hb dX2_isKnownAlready_30 (by decide) (fun c_3 => ?_) (fun c_3 => ?_)
      · replace hF := ifp hF c_3
        refine lv_iconst (v := (nI 0)) hx hb dX2_isKnownAlready_65 (by decide) ?_
        replace hF := zb_e hF
        obtain ⟨h01_4, hF⟩ := hF
        have e9_0 := Option.some.inj hF
        subst e9_0
        exact kret _ _ _ _ h01_4 hS dX2_isKnownAlready_66
      · replace hF := ifn hF c_3
        refine lv_aload_n hx hb dX2_isKnownAlready_33 rfl (lv_at hl 0 rfl) ?_
        refine r_get hx hb hts inX2 hown hK hS 0 3 rfl rfl (by decide) q0 rfl dX2_isKnownAlready_34 ?_
        refine lv_iload_n hx hb dX2_isKnownAlready_37 rfl (lv_at hl 1 rfl) ?_
        refine lv_aload_n hx hb dX2_isKnownAlready_38 rfl (lv_at hl 0 rfl) ?_
        refine r_get hx hb hts inX2 hown hK hS 0 1 rfl rfl (by decide) q2 rfl dX2_isKnownAlready_39 ?_
        replace hF := cal1_e hF
        obtain ⟨x5, hc6, hF⟩ := hF
        refine kV_i (As := [.int v1, .int (Q_0 0 1)]) (rest := []) (wr := [(h_0, oX2 g_0_table g_0_origin h_0_shelf h_0_steps h_0_newest h_0_older Q_0), (h_0_steps, eI cI 401 (Q_0 1)), (h_0_newest, eI cI 256 (Q_0 2)), (h_0_older, eI cI 401 (Q_0 3))]) (w2 := [(h_0, oX2 g_0_table g_0_origin h_0_shelf h_0_steps h_0_newest h_0_older Q_0), (h_0_steps, eI cI 401 (Q_0 1)), (h_0_newest, eI cI 256 (Q_0 2)), (h_0_older, eI cI 401 (Q_0 3)), (h_0_shelf, oX3 h_0_shelf_lows h_0_shelf_highs h_0_shelf_places), (h_0_shelf_lows, eJ cJ 401 (S_0_shelf 0)), (h_0_shelf_highs, eJ cJ 401 (S_0_shelf 1)), (h_0_shelf_places, eJ cJ 401 (S_0_shelf 2))]) hCF hK (c_X3_areSame l D cI cJ h_0_shelf h_0_shelf_lows h_0_shelf_highs h_0_shelf_places 401 S_0_shelf v1 (Q_0 0 1) x5 hc6) (cwV 2 hts (TBL_V mw_447 mw_448 mw_449 mw_21 mw_450) rfl rfl rfl pmX3_areSame ⟨Nat.le_of_ble_eq_true rfl, Nat.le_of_ble_eq_true rfl⟩) hS hA [4, 5, 6, 7] [0, 1, 2, 3] rfl rfl rfl rfl (by decide) rfl rfl rfl hl.1 rfl (Nat.le_of_ble_eq_true rfl) ⟨Nat.zero_le _, Nat.zero_le _⟩ dX2_isKnownAlready_42 rfl (fun H locs hS => ?_)
        refine lv_if_eq (tgt := 50) hx hb dX2_isKnownAlready_45 (by decide) (fun c_7 => ?_) (fun c_7 => ?_)
        · replace hF := ifp hF c_7
          refine lv_aload_n hx hb dX2_isKnownAlready_50 rfl (lv_at hl 0 rfl) ?_
          refine r_get hx hb hts inX2 hown hK hS 0 6 rfl rfl (by decide) q3 rfl dX2_isKnownAlready_51 ?_
          refine lv_iload_n hx hb dX2_isKnownAlready_54 rfl (lv_at hl 1 rfl) ?_
          replace hF := cal1_e hF
          obtain ⟨x8, hc9, hF⟩ := hF
          refine kN_i (As := [.ref h_0_older, .int v1]) (rest := []) (wr := [(h_0, oX2 g_0_table g_0_origin h_0_shelf h_0_steps h_0_newest h_0_older Q_0), (h_0_steps, eI cI 401 (Q_0 1)), (h_0_newest, eI cI 256 (Q_0 2)), (h_0_shelf, oX3 h_0_shelf_lows h_0_shelf_highs h_0_shelf_places), (h_0_shelf_lows, eJ cJ 401 (S_0_shelf 0)), (h_0_shelf_highs, eJ cJ 401 (S_0_shelf 1)), (h_0_shelf_places, eJ cJ 401 (S_0_shelf 2))]) (w2 := [(h_0, oX2 g_0_table g_0_origin h_0_shelf h_0_steps h_0_newest h_0_older Q_0), (h_0_steps, eI cI 401 (Q_0 1)), (h_0_newest, eI cI 256 (Q_0 2)), (h_0_shelf, oX3 h_0_shelf_lows h_0_shelf_highs h_0_shelf_places), (h_0_shelf_lows, eJ cJ 401 (S_0_shelf 0)), (h_0_shelf_highs, eJ cJ 401 (S_0_shelf 1)), (h_0_shelf_places, eJ cJ 401 (S_0_shelf 2)), (h_0_older, eI cI 401 (Q_0 3))]) hCF hK (c_X5_at l D cI cJ h_0_older 401 (Q_0 3) v1 x8 hc9) (cwN 2 hK hts (TBL_C mw_114) rfl rfl rfl (host := RX5) (List.mem_of_getElem? (i := 15) rfl) (List.mem_cons_of_mem _ mw_2) (List.mem_cons_of_mem _ mw_113) pmX5_at.2 ⟨Nat.le_of_ble_eq_true rfl, Nat.le_of_ble_eq_true rfl⟩) hS hA [3] [0, 1, 2, 4, 5, 6, 7] rfl rfl rfl rfl (by decide) rfl hl.1 rfl (Nat.le_of_ble_eq_true rfl) ⟨Nat.zero_le _, Nat.zero_le _⟩ dX2_isKnownAlready_55 rfl (fun H locs hS => ?_)
          refine lv_istore_n (lv' := [(1, .int x8), (0, .ref h_0), (2, .int v2)]) hx hb dX2_isKnownAlready_58 rfl hl (by decide) rfl (fun ls hl => ?_)
          refine lv_iinc (v := v2 + (nI 1)) (lv' := [(2, .int (v2 + (nI 1))), (1, .int x8), (0, .ref h_0)]) hx hb dX2_isKnownAlready_59 hl (k := 2) rfl rfl (by decide) rfl (fun ls hl => ?_)
          refine lv_goto (tgt := 21) hx hb dX2_isKnownAlready_62 (by decide) ?_
          exact hK21 x8 (v2 + (nI 1)) _ _ _ (hS.sub [0, 1, 2, 7, 3, 4, 5, 6] rfl rfl) (lv_sub hl [2, 1, 0] rfl) hF
        · replace hF := ifn hF c_7
          refine lv_iconst (v := (nI 1)) hx hb dX2_isKnownAlready_48 (by decide) ?_
          replace hF := zb_e hF
          obtain ⟨h01_10, hF⟩ := hF
          have e9_0 := Option.some.inj hF
          subst e9_0
          exact kret _ _ _ _ h01_10 hS dX2_isKnownAlready_49
  have L21 : ∀  (n : Nat) (v1 : Int32) (v2 : Int32) (H : Heap) (locs : List Loc) (ls : Array Slot), HS D A H0 [(h_0, oX2 g_0_table g_0_origin h_0_shelf h_0_steps h_0_newest h_0_older Q_0), (h_0_steps, eI cI 401 (Q_0 1)), (h_0_newest, eI cI 256 (Q_0 2)), (h_0_older, eI cI 401 (Q_0 3)), (h_0_shelf, oX3 h_0_shelf_lows h_0_shelf_highs h_0_shelf_places), (h_0_shelf_lows, eJ cJ 401 (S_0_shelf 0)), (h_0_shelf_highs, eJ cJ 401 (S_0_shelf 1)), (h_0_shelf_places, eJ cJ 401 (S_0_shelf 2))] H locs → lv_has ls 3 [(0, .ref h_0), (1, .int v1), (2, .int v2)] → F_X2_isKnownAlready_L21 Q_0 S_0_shelf  n v1 v2 = some rv → W p l e ({ frames := 2, cells := 0, slots := 0, locals := 44 } : Room) s m args below meth c H locs 0 0 Q (F0 m 21 ls []) := by
    intro  n
    induction n with
    | zero => intro v1 v2 H locs ls hS hl hF; exact nomatch (show (none : Option (Int32)) = some _ from hF)
    | succ n ih => intro v1 v2 H locs ls hS hl hF; exact S21  _ ih v1 v2 H locs ls hS hl hF
  unfold F_X2_isKnownAlready at hF
  refine lv_aload_n hx hb dX2_isKnownAlready_0 rfl (lv_at hl 0 rfl) ?_
  refine r_get hx hb hts inX2 hown hK hS 0 5 rfl rfl (by decide) q4 rfl dX2_isKnownAlready_1 ?_
  refine lv_aload_n hx hb dX2_isKnownAlready_4 rfl (lv_at hl 0 rfl) ?_
  refine r_get hx hb hts inX2 hown hK hS 0 3 rfl rfl (by decide) q0 rfl dX2_isKnownAlready_5 ?_
  refine lv_aload_n hx hb dX2_isKnownAlready_8 rfl (lv_at hl 0 rfl) ?_
  refine r_get hx hb hts inX2 hown hK hS 0 1 rfl rfl (by decide) q2 rfl dX2_isKnownAlready_9 ?_
  replace hF := cal1_e hF
  obtain ⟨x11, hc12, hF⟩ := hF
  refine kV_i (As := [.int (Q_0 0 1)]) (rest := [.ref h_0_newest]) (wr := [(h_0, oX2 g_0_table g_0_origin h_0_shelf h_0_steps h_0_newest h_0_older Q_0), (h_0_steps, eI cI 401 (Q_0 1)), (h_0_newest, eI cI 256 (Q_0 2)), (h_0_older, eI cI 401 (Q_0 3))]) (w2 := [(h_0, oX2 g_0_table g_0_origin h_0_shelf h_0_steps h_0_newest h_0_older Q_0), (h_0_steps, eI cI 401 (Q_0 1)), (h_0_newest, eI cI 256 (Q_0 2)), (h_0_older, eI cI 401 (Q_0 3)), (h_0_shelf, oX3 h_0_shelf_lows h_0_shelf_highs h_0_shelf_places), (h_0_shelf_lows, eJ cJ 401 (S_0_shelf 0)), (h_0_shelf_highs, eJ cJ 401 (S_0_shelf 1)), (h_0_shelf_places, eJ cJ 401 (S_0_shelf 2))]) hCF hK (c_X3_bucketOf l D cI cJ h_0_shelf h_0_shelf_lows h_0_shelf_highs h_0_shelf_places 401 S_0_shelf (Q_0 0 1) x11 hc12) (cwV 1 hts (TBL_V mw_428 mw_429 mw_430 mw_21 mw_431) rfl rfl rfl pmX3_bucketOf ⟨Nat.le_of_ble_eq_true rfl, Nat.le_of_ble_eq_true rfl⟩) hS hA [4, 5, 6, 7] [0, 1, 2, 3] rfl rfl rfl rfl (by decide) rfl rfl rfl hl.1 rfl (Nat.le_of_ble_eq_true rfl) ⟨Nat.zero_le _, Nat.zero_le _⟩ dX2_isKnownAlready_12 rfl (fun H locs hS => ?_)
  replace hF := cal1_e hF
  obtain ⟨x13, hc14, hF⟩ := hF
  refine kN_i (As := [.ref h_0_newest, .int x11]) (rest := []) (wr := [(h_0, oX2 g_0_table g_0_origin h_0_shelf h_0_steps h_0_newest h_0_older Q_0), (h_0_steps, eI cI 401 (Q_0 1)), (h_0_older, eI cI 401 (Q_0 3)), (h_0_shelf, oX3 h_0_shelf_lows h_0_shelf_highs h_0_shelf_places), (h_0_shelf_lows, eJ cJ 401 (S_0_shelf 0)), (h_0_shelf_highs, eJ cJ 401 (S_0_shelf 1)), (h_0_shelf_places, eJ cJ 401 (S_0_shelf 2))]) (w2 := [(h_0, oX2 g_0_table g_0_origin h_0_shelf h_0_steps h_0_newest h_0_older Q_0), (h_0_steps, eI cI 401 (Q_0 1)), (h_0_older, eI cI 401 (Q_0 3)), (h_0_shelf, oX3 h_0_shelf_lows h_0_shelf_highs h_0_shelf_places), (h_0_shelf_lows, eJ cJ 401 (S_0_shelf 0)), (h_0_shelf_highs, eJ cJ 401 (S_0_shelf 1)), (h_0_shelf_places, eJ cJ 401 (S_0_shelf 2)), (h_0_newest, eI cI 256 (Q_0 2))]) hCF hK (c_X5_at l D cI cJ h_0_newest 256 (Q_0 2) x11 x13 hc14) (cwN 2 hK hts (TBL_C mw_114) rfl rfl rfl (host := RX5) (List.mem_of_getElem? (i := 15) rfl) (List.mem_cons_of_mem _ mw_2) (List.mem_cons_of_mem _ mw_113) pmX5_at.2 ⟨Nat.le_of_ble_eq_true rfl, Nat.le_of_ble_eq_true rfl⟩) hS hA [2] [0, 1, 3, 4, 5, 6, 7] rfl rfl rfl rfl (by decide) rfl hl.1 rfl (Nat.le_of_ble_eq_true rfl) ⟨Nat.zero_le _, Nat.zero_le _⟩ dX2_isKnownAlready_15 rfl (fun H locs hS => ?_)
  refine lv_istore_n (lv' := [(1, .int x13), (0, .ref h_0)]) hx hb dX2_isKnownAlready_18 rfl hl (by decide) rfl (fun ls hl => ?_)
  refine lv_iconst (v := (nI 0)) hx hb dX2_isKnownAlready_19 (by decide) ?_
  refine lv_istore_n (lv' := [(2, .int (nI 0)), (1, .int x13), (0, .ref h_0)]) hx hb dX2_isKnownAlready_20 rfl hl (by decide) rfl (fun ls hl => ?_)
  exact L21 FU x13 (nI 0) _ _ _ (hS.sub [0, 1, 7, 2, 3, 4, 5, 6] rfl rfl) (lv_sub hl [2, 1, 0] rfl) hF
set_option maxHeartbeats 4000000 in
set_option maxRecDepth 100000 in
theorem c_X2_run (l : Launch) (D : va_G) (cI cJ : ClassId) (h_0 h_0_steps h_0_newest h_0_older h_0_origin h_0_origin_lies h_0_origin_tops h_0_origin_list h_0_table h_0_table_lies h_0_table_tops h_0_table_list h_0_shelf h_0_shelf_lows h_0_shelf_highs h_0_shelf_places h_0_table_rules g_0_origin_rules : Nat) (r_0_table_rules : Nat → Int32) (Q_0 : Nat → Nat → Int32) (T_0_origin : Nat → Nat → Int32) (T_0_table : Nat → Nat → Int32) (S_0_shelf : Nat → Nat → Int64) (v1 : Int32) (rv : Int32) (r_Q_0 : Nat → Nat → Int32) (r_T_0_origin : Nat → Nat → Int32) (r_T_0_table : Nat → Nat → Int32) (r_S_0_shelf : Nat → Nat → Int64) (hF : F_X2_run r_0_table_rules Q_0 T_0_origin T_0_table S_0_shelf v1 = some (rv, r_Q_0, r_T_0_origin, r_T_0_table, r_S_0_shelf)) : CtI l D [(cI, .int), (cJ, .long)] yX2_run wtX2_run ({ frames := 5, cells := 0, slots := 0, locals := 116 } : Room) [.ref h_0, .int v1] [(h_0, oX2 h_0_table h_0_origin h_0_shelf h_0_steps h_0_newest h_0_older Q_0), (h_0_steps, eI cI 401 (Q_0 1)), (h_0_newest, eI cI 256 (Q_0 2)), (h_0_older, eI cI 401 (Q_0 3)), (h_0_origin, oX4 g_0_origin_rules h_0_origin_lies h_0_origin_tops h_0_origin_list T_0_origin), (h_0_origin_lies, eI cI 16 (T_0_origin 1)), (h_0_origin_tops, eI cI 10 (T_0_origin 2)), (h_0_origin_list, eI cI 160 (T_0_origin 3)), (h_0_table, oX4 h_0_table_rules h_0_table_lies h_0_table_tops h_0_table_list T_0_table), (h_0_table_lies, eI cI 16 (T_0_table 1)), (h_0_table_tops, eI cI 10 (T_0_table 2)), (h_0_table_list, eI cI 160 (T_0_table 3)), (h_0_shelf, oX3 h_0_shelf_lows h_0_shelf_highs h_0_shelf_places), (h_0_shelf_lows, eJ cJ 401 (S_0_shelf 0)), (h_0_shelf_highs, eJ cJ 401 (S_0_shelf 1)), (h_0_shelf_places, eJ cJ 401 (S_0_shelf 2)), (h_0_table_rules, oX1 r_0_table_rules)] [(h_0, oX2 h_0_table h_0_origin h_0_shelf h_0_steps h_0_newest h_0_older r_Q_0), (h_0_steps, eI cI 401 (r_Q_0 1)), (h_0_newest, eI cI 256 (r_Q_0 2)), (h_0_older, eI cI 401 (r_Q_0 3)), (h_0_origin, oX4 h_0_table_rules h_0_origin_lies h_0_origin_tops h_0_origin_list r_T_0_origin), (h_0_origin_lies, eI cI 16 (r_T_0_origin 1)), (h_0_origin_tops, eI cI 10 (r_T_0_origin 2)), (h_0_origin_list, eI cI 160 (r_T_0_origin 3)), (h_0_table, oX4 h_0_table_rules h_0_table_lies h_0_table_tops h_0_table_list r_T_0_table), (h_0_table_lies, eI cI 16 (r_T_0_table 1)), (h_0_table_tops, eI cI 10 (r_T_0_table 2)), (h_0_table_list, eI cI 160 (r_T_0_table 3)), (h_0_shelf, oX3 h_0_shelf_lows h_0_shelf_highs h_0_shelf_places), (h_0_shelf_lows, eJ cJ 401 (r_S_0_shelf 0)), (h_0_shelf_highs, eJ cJ 401 (r_S_0_shelf 1)), (h_0_shelf_places, eJ cJ 401 (r_S_0_shelf 2)), (h_0_table_rules, oX1 r_0_table_rules)] rv := by
  refine CtI.of (cc := cX2_run) (maxL := 5) (by decide) rfl (Nat.le_of_ble_eq_true rfl) ?_
  intro p e s m args below meth c A H0 Q ls X hS hl kret
  have hCF := X.1
  obtain ⟨⟨hx, hb, hml, hown, hts⟩, hK, hA⟩ := X
  have hl : lv_has ls 5 [(0, .ref h_0), (1, .int v1)] := hl
  have q0 := hts (.fieldLink RX2 22 "Patiencery$Searcher" "origin" "LPatiencery$Table;") (List.mem_cons_of_mem _ mw_77)
  have inX2 : ∀ w ∈ u_ws RX2 TX2 7, w ∈ wtX2_run := fun w h => List.mem_cons_of_mem _ (inlX2 w h)
  have q2 := hts (.fieldLink RX2 75 "Patiencery$Table" "listed" "I") (List.mem_cons_of_mem _ mw_420)
  have inX4 : ∀ w ∈ u_ws RX4 TX4 7, w ∈ wtX2_run := fun w h => List.mem_cons_of_mem _ (inlX4 w h)
  have q4 := hts (.fieldLink RX2 12 "Patiencery$Searcher" "table" "LPatiencery$Table;") (List.mem_cons_of_mem _ mw_75)
  have q5 := hts (.fieldLink RX2 30 "Patiencery$Searcher" "shelf" "LPatiencery$Shelf;") (List.mem_cons_of_mem _ mw_79)
  have q6 := hts (.fieldLink RX2 18 "Patiencery$Searcher" "count" "I") (List.mem_cons_of_mem _ mw_76)
  have q7 := hts (.fieldLink RX2 34 "Patiencery$Searcher" "steps" "[I") (List.mem_cons_of_mem _ mw_80)
  have q8 := hts (.fieldLink RX2 38 "Patiencery$Searcher" "newest" "[I") (List.mem_cons_of_mem _ mw_81)
  have S101 : ∀ (K55 : (Nat → Nat → Int32) → (Nat → Nat → Int32) → (Nat → Nat → Int32) → (Nat → Nat → Int64) → Int32 → Int32 → Option (Int32 × (Nat → Nat → Int32) × (Nat → Nat → Int32) × (Nat → Nat → Int32) × (Nat → Nat → Int64))) (_ : ∀ (Q_0 : Nat → Nat → Int32) (T_0_origin : Nat → Nat → Int32) (T_0_table : Nat → Nat → Int32) (S_0_shelf : Nat → Nat → Int64) (v1 : Int32) (v2 : Int32) (H : Heap) (locs : List Loc) (ls : Array Slot), HS D A H0 [(h_0, oX2 h_0_table h_0_origin h_0_shelf h_0_steps h_0_newest h_0_older Q_0), (h_0_steps, eI cI 401 (Q_0 1)), (h_0_newest, eI cI 256 (Q_0 2)), (h_0_older, eI cI 401 (Q_0 3)), (h_0_origin, oX4 h_0_table_rules h_0_origin_lies h_0_origin_tops h_0_origin_list T_0_origin), (h_0_origin_lies, eI cI 16 (T_0_origin 1)), (h_0_origin_tops, eI cI 10 (T_0_origin 2)), (h_0_origin_list, eI cI 160 (T_0_origin 3)), (h_0_table, oX4 h_0_table_rules h_0_table_lies h_0_table_tops h_0_table_list T_0_table), (h_0_table_lies, eI cI 16 (T_0_table 1)), (h_0_table_tops, eI cI 10 (T_0_table 2)), (h_0_table_list, eI cI 160 (T_0_table 3)), (h_0_shelf, oX3 h_0_shelf_lows h_0_shelf_highs h_0_shelf_places), (h_0_shelf_lows, eJ cJ 401 (S_0_shelf 0)), (h_0_shelf_highs, eJ cJ 401 (S_0_shelf 1)), (h_0_shelf_places, eJ cJ 401 (S_0_shelf 2)), (h_0_table_rules, oX1 r_0_table_rules)] H locs → lv_has ls 5 [(0, .ref h_0), (1, .int v1), (2, .int v2)] → K55 Q_0 T_0_origin T_0_table S_0_shelf v1 v2 = some (rv, r_Q_0, r_T_0_origin, r_T_0_table, r_S_0_shelf) → W p l e ({ frames := 5, cells := 0, slots := 0, locals := 116 } : Room) s m args below meth c H locs 0 0 Q (F0 m 55 ls [])) (K101 : (Nat → Nat → Int32) → (Nat → Nat → Int32) → (Nat → Nat → Int32) → (Nat → Nat → Int64) → Int32 → Int32 → Int32 → Int32 → Option (Int32 × (Nat → Nat → Int32) × (Nat → Nat → Int32) × (Nat → Nat → Int32) × (Nat → Nat → Int64))) (_ : ∀ (Q_0 : Nat → Nat → Int32) (T_0_origin : Nat → Nat → Int32) (T_0_table : Nat → Nat → Int32) (S_0_shelf : Nat → Nat → Int64) (v1 : Int32) (v2 : Int32) (v3 : Int32) (v4 : Int32) (H : Heap) (locs : List Loc) (ls : Array Slot), HS D A H0 [(h_0, oX2 h_0_table h_0_origin h_0_shelf h_0_steps h_0_newest h_0_older Q_0), (h_0_steps, eI cI 401 (Q_0 1)), (h_0_newest, eI cI 256 (Q_0 2)), (h_0_older, eI cI 401 (Q_0 3)), (h_0_origin, oX4 h_0_table_rules h_0_origin_lies h_0_origin_tops h_0_origin_list T_0_origin), (h_0_origin_lies, eI cI 16 (T_0_origin 1)), (h_0_origin_tops, eI cI 10 (T_0_origin 2)), (h_0_origin_list, eI cI 160 (T_0_origin 3)), (h_0_table, oX4 h_0_table_rules h_0_table_lies h_0_table_tops h_0_table_list T_0_table), (h_0_table_lies, eI cI 16 (T_0_table 1)), (h_0_table_tops, eI cI 10 (T_0_table 2)), (h_0_table_list, eI cI 160 (T_0_table 3)), (h_0_shelf, oX3 h_0_shelf_lows h_0_shelf_highs h_0_shelf_places), (h_0_shelf_lows, eJ cJ 401 (S_0_shelf 0)), (h_0_shelf_highs, eJ cJ 401 (S_0_shelf 1)), (h_0_shelf_places, eJ cJ 401 (S_0_shelf 2)), (h_0_table_rules, oX1 r_0_table_rules)] H locs → lv_has ls 5 [(0, .ref h_0), (1, .int v1), (2, .int v2), (3, .int v3), (4, .int v4)] → K101 Q_0 T_0_origin T_0_table S_0_shelf v1 v2 v3 v4 = some (rv, r_Q_0, r_T_0_origin, r_T_0_table, r_S_0_shelf) → W p l e ({ frames := 5, cells := 0, slots := 0, locals := 116 } : Room) s m args below meth c H locs 0 0 Q (F0 m 101 ls [])) (Q_0 : Nat → Nat → Int32) (T_0_origin : Nat → Nat → Int32) (T_0_table : Nat → Nat → Int32) (S_0_shelf : Nat → Nat → Int64) (v1 : Int32) (v2 : Int32) (v3 : Int32) (v4 : Int32) (H : Heap) (locs : List Loc) (ls : Array Slot), HS D A H0 [(h_0, oX2 h_0_table h_0_origin h_0_shelf h_0_steps h_0_newest h_0_older Q_0), (h_0_steps, eI cI 401 (Q_0 1)), (h_0_newest, eI cI 256 (Q_0 2)), (h_0_older, eI cI 401 (Q_0 3)), (h_0_origin, oX4 h_0_table_rules h_0_origin_lies h_0_origin_tops h_0_origin_list T_0_origin), (h_0_origin_lies, eI cI 16 (T_0_origin 1)), (h_0_origin_tops, eI cI 10 (T_0_origin 2)), (h_0_origin_list, eI cI 160 (T_0_origin 3)), (h_0_table, oX4 h_0_table_rules h_0_table_lies h_0_table_tops h_0_table_list T_0_table), (h_0_table_lies, eI cI 16 (T_0_table 1)), (h_0_table_tops, eI cI 10 (T_0_table 2)), (h_0_table_list, eI cI 160 (T_0_table 3)), (h_0_shelf, oX3 h_0_shelf_lows h_0_shelf_highs h_0_shelf_places), (h_0_shelf_lows, eJ cJ 401 (S_0_shelf 0)), (h_0_shelf_highs, eJ cJ 401 (S_0_shelf 1)), (h_0_shelf_places, eJ cJ 401 (S_0_shelf 2)), (h_0_table_rules, oX1 r_0_table_rules)] H locs → lv_has ls 5 [(0, .ref h_0), (1, .int v1), (2, .int v2), (3, .int v3), (4, .int v4)] → F_X2_run_s101 r_0_table_rules K55 K101 Q_0 T_0_origin T_0_table S_0_shelf v1 v2 v3 v4 = some (rv, r_Q_0, r_T_0_origin, r_T_0_table, r_S_0_shelf) → W p l e ({ frames := 5, cells := 0, slots := 0, locals := 116 } : Room) s m args below meth c H locs 0 0 Q (F0 m 101 ls []) := by
    intro K55 hK55 K101 hK101 Q_0 T_0_origin T_0_table S_0_shelf v1 v2 v3 v4 H locs ls hS hl hF
    unfold F_X2_run_s101 at hF
    refine lv_iload hx hb dX2_run_101 (lv_at hl 4 rfl) ?_
    refine lv_aload_n hx hb dX2_run_103 rfl (lv_at hl 0 rfl) ?_
    refine r_get hx hb hts inX2 hown hK hS 0 2 rfl rfl (by decide) q0 rfl dX2_run_104 ?_
    refine r_get hx hb hts inX4 hown hK hS 4 4 rfl rfl (by decide) q2 rfl dX2_run_107 ?_
    refine lv_icmp_ge (tgt := 199) hx hb dX2_run_110 (by decide) (fun c_1 => ?_) (fun c_1 => ?_)
    · replace hF := ifp hF c_1
      refine lv_iinc (v := v2 + (nI 1)) (lv' := [(2, .int (v2 + (nI 1))), (0, .ref h_0), (1, .int v1), (3, .int v3), (4, .int v4)]) hx hb dX2_run_199 hl (k := 2) rfl rfl (by decide) rfl (fun ls hl => ?_)
      refine lv_goto (tgt := 55) hx hb dX2_run_202 (by decide) ?_
      exact hK55 Q_0 T_0_origin T_0_table S_0_shelf v1 (v2 + (nI 1)) _ _ _ hS (lv_sub hl [1, 2, 0] rfl) hF
    · replace hF := ifn hF c_1
      refine lv_aload_n hx hb dX2_run_113 rfl (lv_at hl 0 rfl) ?_
      refine r_get hx hb hts inX2 hown hK hS 0 0 rfl rfl (by decide) q4 rfl dX2_run_114 ?_
      refine lv_aload_n hx hb dX2_run_117 rfl (lv_at hl 0 rfl) ?_
      refine r_get hx hb hts inX2 hown hK hS 0 2 rfl rfl (by decide) q0 rfl dX2_run_118 ?_
      replace hF := cal1_e hF
      obtain ⟨T_0_tableu2, hc3, hF⟩ := hF
      refine kV_v (As := [.ref h_0_origin]) (rest := []) (wr := [(h_0, oX2 h_0_table h_0_origin h_0_shelf h_0_steps h_0_newest h_0_older Q_0), (h_0_steps, eI cI 401 (Q_0 1)), (h_0_newest, eI cI 256 (Q_0 2)), (h_0_older, eI cI 401 (Q_0 3)), (h_0_shelf, oX3 h_0_shelf_lows h_0_shelf_highs h_0_shelf_places), (h_0_shelf_lows, eJ cJ 401 (S_0_shelf 0)), (h_0_shelf_highs, eJ cJ 401 (S_0_shelf 1)), (h_0_shelf_places, eJ cJ 401 (S_0_shelf 2)), (h_0_table_rules, oX1 r_0_table_rules)]) (w2 := [(h_0, oX2 h_0_table h_0_origin h_0_shelf h_0_steps h_0_newest h_0_older Q_0), (h_0_steps, eI cI 401 (Q_0 1)), (h_0_newest, eI cI 256 (Q_0 2)), (h_0_older, eI cI 401 (Q_0 3)), (h_0_shelf, oX3 h_0_shelf_lows h_0_shelf_highs h_0_shelf_places), (h_0_shelf_lows, eJ cJ 401 (S_0_shelf 0)), (h_0_shelf_highs, eJ cJ 401 (S_0_shelf 1)), (h_0_shelf_places, eJ cJ 401 (S_0_shelf 2)), (h_0_table_rules, oX1 r_0_table_rules), (h_0_table, oX4 h_0_table_rules h_0_table_lies h_0_table_tops h_0_table_list T_0_tableu2), (h_0_table_lies, eI cI 16 (T_0_tableu2 1)), (h_0_table_tops, eI cI 10 (T_0_tableu2 2)), (h_0_table_list, eI cI 160 (T_0_tableu2 3)), (h_0_origin, oX4 h_0_table_rules h_0_origin_lies h_0_origin_tops h_0_origin_list T_0_origin), (h_0_origin_lies, eI cI 16 (T_0_origin 1)), (h_0_origin_tops, eI cI 10 (T_0_origin 2)), (h_0_origin_list, eI cI 160 (T_0_origin 3))]) hCF hK (c_X4_copyFrom l D cI cJ h_0_table h_0_table_lies h_0_table_tops h_0_table_list h_0_origin h_0_origin_lies h_0_origin_tops h_0_origin_list h_0_table_rules h_0_table_rules T_0_origin T_0_table T_0_tableu2 hc3) (cwV 1 hts (TBL_V mw_422 mw_409 mw_410 mw_17 mw_411) rfl rfl rfl pmX4_copyFrom ⟨Nat.le_of_ble_eq_true rfl, Nat.le_of_ble_eq_true rfl⟩) hS hA [8, 9, 10, 11, 4, 5, 6, 7] [0, 1, 2, 3, 12, 13, 14, 15, 16] rfl rfl rfl rfl (by decide) rfl rfl rfl hl.1 rfl (Nat.le_of_ble_eq_true rfl) ⟨Nat.zero_le _, Nat.zero_le _⟩ dX2_run_121 rfl (fun H locs hS => ?_)
      refine lv_aload_n hx hb dX2_run_124 rfl (lv_at hl 0 rfl) ?_
      refine r_get hx hb hts inX2 hown hK hS 0 0 rfl rfl (by decide) q4 rfl dX2_run_125 ?_
      refine lv_aload_n hx hb dX2_run_128 rfl (lv_at hl 0 rfl) ?_
      refine r_get hx hb hts inX2 hown hK hS 0 2 rfl rfl (by decide) q0 rfl dX2_run_129 ?_
      refine lv_iload hx hb dX2_run_132 (lv_at hl 4 rfl) ?_
      replace hF := cal1_e hF
      obtain ⟨x4, hc5, hF⟩ := hF
      refine kV_i (As := [.int v4]) (rest := [.ref h_0_table]) (wr := [(h_0, oX2 h_0_table h_0_origin h_0_shelf h_0_steps h_0_newest h_0_older Q_0), (h_0_steps, eI cI 401 (Q_0 1)), (h_0_newest, eI cI 256 (Q_0 2)), (h_0_older, eI cI 401 (Q_0 3)), (h_0_shelf, oX3 h_0_shelf_lows h_0_shelf_highs h_0_shelf_places), (h_0_shelf_lows, eJ cJ 401 (S_0_shelf 0)), (h_0_shelf_highs, eJ cJ 401 (S_0_shelf 1)), (h_0_shelf_places, eJ cJ 401 (S_0_shelf 2)), (h_0_table_rules, oX1 r_0_table_rules), (h_0_table, oX4 h_0_table_rules h_0_table_lies h_0_table_tops h_0_table_list T_0_tableu2), (h_0_table_lies, eI cI 16 (T_0_tableu2 1)), (h_0_table_tops, eI cI 10 (T_0_tableu2 2)), (h_0_table_list, eI cI 160 (T_0_tableu2 3))]) (w2 := [(h_0, oX2 h_0_table h_0_origin h_0_shelf h_0_steps h_0_newest h_0_older Q_0), (h_0_steps, eI cI 401 (Q_0 1)), (h_0_newest, eI cI 256 (Q_0 2)), (h_0_older, eI cI 401 (Q_0 3)), (h_0_shelf, oX3 h_0_shelf_lows h_0_shelf_highs h_0_shelf_places), (h_0_shelf_lows, eJ cJ 401 (S_0_shelf 0)), (h_0_shelf_highs, eJ cJ 401 (S_0_shelf 1)), (h_0_shelf_places, eJ cJ 401 (S_0_shelf 2)), (h_0_table_rules, oX1 r_0_table_rules), (h_0_table, oX4 h_0_table_rules h_0_table_lies h_0_table_tops h_0_table_list T_0_tableu2), (h_0_table_lies, eI cI 16 (T_0_tableu2 1)), (h_0_table_tops, eI cI 10 (T_0_tableu2 2)), (h_0_table_list, eI cI 160 (T_0_tableu2 3)), (h_0_origin, oX4 h_0_table_rules h_0_origin_lies h_0_origin_tops h_0_origin_list T_0_origin), (h_0_origin_lies, eI cI 16 (T_0_origin 1)), (h_0_origin_tops, eI cI 10 (T_0_origin 2)), (h_0_origin_list, eI cI 160 (T_0_origin 3))]) hCF hK (c_X4_listedAt l D cI cJ h_0_origin h_0_origin_lies h_0_origin_tops h_0_origin_list h_0_table_rules T_0_origin v4 x4 hc5) (cwV 1 hts (TBL_V mw_441 mw_312 mw_313 mw_17 mw_314) rfl rfl rfl pmX4_listedAt ⟨Nat.le_of_ble_eq_true rfl, Nat.le_of_ble_eq_true rfl⟩) hS hA [13, 14, 15, 16] [0, 1, 2, 3, 4, 5, 6, 7, 8, 9, 10, 11, 12] rfl rfl rfl rfl (by decide) rfl rfl rfl hl.1 rfl (Nat.le_of_ble_eq_true rfl) ⟨Nat.zero_le _, Nat.zero_le _⟩ dX2_run_134 rfl (fun H locs hS => ?_)
      replace hF := cal1_e hF
      obtain ⟨T_0_tableu6, hc7, hF⟩ := hF
      refine kV_v (As := [.int x4]) (rest := []) (wr := [(h_0, oX2 h_0_table h_0_origin h_0_shelf h_0_steps h_0_newest h_0_older Q_0), (h_0_steps, eI cI 401 (Q_0 1)), (h_0_newest, eI cI 256 (Q_0 2)), (h_0_older, eI cI 401 (Q_0 3)), (h_0_shelf, oX3 h_0_shelf_lows h_0_shelf_highs h_0_shelf_places), (h_0_shelf_lows, eJ cJ 401 (S_0_shelf 0)), (h_0_shelf_highs, eJ cJ 401 (S_0_shelf 1)), (h_0_shelf_places, eJ cJ 401 (S_0_shelf 2)), (h_0_table_rules, oX1 r_0_table_rules), (h_0_origin, oX4 h_0_table_rules h_0_origin_lies h_0_origin_tops h_0_origin_list T_0_origin), (h_0_origin_lies, eI cI 16 (T_0_origin 1)), (h_0_origin_tops, eI cI 10 (T_0_origin 2)), (h_0_origin_list, eI cI 160 (T_0_origin 3))]) (w2 := [(h_0, oX2 h_0_table h_0_origin h_0_shelf h_0_steps h_0_newest h_0_older Q_0), (h_0_steps, eI cI 401 (Q_0 1)), (h_0_newest, eI cI 256 (Q_0 2)), (h_0_older, eI cI 401 (Q_0 3)), (h_0_shelf, oX3 h_0_shelf_lows h_0_shelf_highs h_0_shelf_places), (h_0_shelf_lows, eJ cJ 401 (S_0_shelf 0)), (h_0_shelf_highs, eJ cJ 401 (S_0_shelf 1)), (h_0_shelf_places, eJ cJ 401 (S_0_shelf 2)), (h_0_table_rules, oX1 r_0_table_rules), (h_0_origin, oX4 h_0_table_rules h_0_origin_lies h_0_origin_tops h_0_origin_list T_0_origin), (h_0_origin_lies, eI cI 16 (T_0_origin 1)), (h_0_origin_tops, eI cI 10 (T_0_origin 2)), (h_0_origin_list, eI cI 160 (T_0_origin 3)), (h_0_table, oX4 h_0_table_rules h_0_table_lies h_0_table_tops h_0_table_list T_0_tableu6), (h_0_table_lies, eI cI 16 (T_0_tableu6 1)), (h_0_table_tops, eI cI 10 (T_0_tableu6 2)), (h_0_table_list, eI cI 160 (T_0_tableu6 3))]) hCF hK (c_X4_play l D cI cJ h_0_table h_0_table_lies h_0_table_tops h_0_table_list h_0_table_rules T_0_tableu2 x4 T_0_tableu6 hc7) (cwV 1 hts (TBL_V mw_442 mw_352 mw_353 mw_17 mw_354) rfl rfl rfl pmX4_play ⟨Nat.le_of_ble_eq_true rfl, Nat.le_of_ble_eq_true rfl⟩) hS hA [9, 10, 11, 12] [0, 1, 2, 3, 4, 5, 6, 7, 8, 13, 14, 15, 16] rfl rfl rfl rfl (by decide) rfl rfl rfl hl.1 rfl (Nat.le_of_ble_eq_true rfl) ⟨Nat.zero_le _, Nat.zero_le _⟩ dX2_run_137 rfl (fun H locs hS => ?_)
      refine lv_aload_n hx hb dX2_run_140 rfl (lv_at hl 0 rfl) ?_
      refine r_get hx hb hts inX2 hown hK hS 0 3 rfl rfl (by decide) q5 rfl dX2_run_141 ?_
      refine lv_aload_n hx hb dX2_run_144 rfl (lv_at hl 0 rfl) ?_
      refine r_get hx hb hts inX2 hown hK hS 0 1 rfl rfl (by decide) q6 rfl dX2_run_145 ?_
      refine lv_aload_n hx hb dX2_run_148 rfl (lv_at hl 0 rfl) ?_
      refine r_get hx hb hts inX2 hown hK hS 0 0 rfl rfl (by decide) q4 rfl dX2_run_149 ?_
      replace hF := cal1_e hF
      obtain ⟨S_0_shelfu8, hc9, hF⟩ := hF
      refine kV_v (As := [.int (Q_0 0 1), .ref h_0_table]) (rest := []) (wr := [(h_0, oX2 h_0_table h_0_origin h_0_shelf h_0_steps h_0_newest h_0_older Q_0), (h_0_steps, eI cI 401 (Q_0 1)), (h_0_newest, eI cI 256 (Q_0 2)), (h_0_older, eI cI 401 (Q_0 3)), (h_0_table_rules, oX1 r_0_table_rules), (h_0_origin, oX4 h_0_table_rules h_0_origin_lies h_0_origin_tops h_0_origin_list T_0_origin), (h_0_origin_lies, eI cI 16 (T_0_origin 1)), (h_0_origin_tops, eI cI 10 (T_0_origin 2)), (h_0_origin_list, eI cI 160 (T_0_origin 3))]) (w2 := [(h_0, oX2 h_0_table h_0_origin h_0_shelf h_0_steps h_0_newest h_0_older Q_0), (h_0_steps, eI cI 401 (Q_0 1)), (h_0_newest, eI cI 256 (Q_0 2)), (h_0_older, eI cI 401 (Q_0 3)), (h_0_table_rules, oX1 r_0_table_rules), (h_0_origin, oX4 h_0_table_rules h_0_origin_lies h_0_origin_tops h_0_origin_list T_0_origin), (h_0_origin_lies, eI cI 16 (T_0_origin 1)), (h_0_origin_tops, eI cI 10 (T_0_origin 2)), (h_0_origin_list, eI cI 160 (T_0_origin 3)), (h_0_shelf, oX3 h_0_shelf_lows h_0_shelf_highs h_0_shelf_places), (h_0_shelf_lows, eJ cJ 401 (S_0_shelfu8 0)), (h_0_shelf_highs, eJ cJ 401 (S_0_shelfu8 1)), (h_0_shelf_places, eJ cJ 401 (S_0_shelfu8 2)), (h_0_table, oX4 h_0_table_rules h_0_table_lies h_0_table_tops h_0_table_list T_0_tableu6), (h_0_table_lies, eI cI 16 (T_0_tableu6 1)), (h_0_table_tops, eI cI 10 (T_0_tableu6 2)), (h_0_table_list, eI cI 160 (T_0_tableu6 3))]) hCF hK (c_X3_keep l D cI cJ h_0_shelf h_0_shelf_lows h_0_shelf_highs h_0_shelf_places h_0_table h_0_table_lies h_0_table_tops h_0_table_list h_0_table_rules 401 T_0_tableu6 S_0_shelf (Q_0 0 1) S_0_shelfu8 hc9) (cwV 2 hts (TBL_V mw_423 mw_332 mw_333 mw_21 mw_334) rfl rfl rfl pmX3_keep ⟨Nat.le_of_ble_eq_true rfl, Nat.le_of_ble_eq_true rfl⟩) hS hA [4, 5, 6, 7, 13, 14, 15, 16] [0, 1, 2, 3, 8, 9, 10, 11, 12] rfl rfl rfl rfl (by decide) rfl rfl rfl hl.1 rfl (Nat.le_of_ble_eq_true rfl) ⟨Nat.zero_le _, Nat.zero_le _⟩ dX2_run_152 rfl (fun H locs hS => ?_)
      refine lv_aload_n hx hb dX2_run_155 rfl (lv_at hl 0 rfl) ?_
      replace hF := cal1_e hF
      obtain ⟨x10, hc11, hF⟩ := hF
      refine kV_i (As := []) (rest := []) (wr := [(h_0_table_rules, oX1 r_0_table_rules), (h_0_origin, oX4 h_0_table_rules h_0_origin_lies h_0_origin_tops h_0_origin_list T_0_origin), (h_0_origin_lies, eI cI 16 (T_0_origin 1)), (h_0_origin_tops, eI cI 10 (T_0_origin 2)), (h_0_origin_list, eI cI 160 (T_0_origin 3)), (h_0_table, oX4 h_0_table_rules h_0_table_lies h_0_table_tops h_0_table_list T_0_tableu6), (h_0_table_lies, eI cI 16 (T_0_tableu6 1)), (h_0_table_tops, eI cI 10 (T_0_tableu6 2)), (h_0_table_list, eI cI 160 (T_0_tableu6 3))]) (w2 := [(h_0_table_rules, oX1 r_0_table_rules), (h_0_origin, oX4 h_0_table_rules h_0_origin_lies h_0_origin_tops h_0_origin_list T_0_origin), (h_0_origin_lies, eI cI 16 (T_0_origin 1)), (h_0_origin_tops, eI cI 10 (T_0_origin 2)), (h_0_origin_list, eI cI 160 (T_0_origin 3)), (h_0_table, oX4 h_0_table_rules h_0_table_lies h_0_table_tops h_0_table_list T_0_tableu6), (h_0_table_lies, eI cI 16 (T_0_tableu6 1)), (h_0_table_tops, eI cI 10 (T_0_tableu6 2)), (h_0_table_list, eI cI 160 (T_0_tableu6 3)), (h_0, oX2 h_0_table h_0_origin h_0_shelf h_0_steps h_0_newest h_0_older Q_0), (h_0_steps, eI cI 401 (Q_0 1)), (h_0_newest, eI cI 256 (Q_0 2)), (h_0_older, eI cI 401 (Q_0 3)), (h_0_shelf, oX3 h_0_shelf_lows h_0_shelf_highs h_0_shelf_places), (h_0_shelf_lows, eJ cJ 401 (S_0_shelfu8 0)), (h_0_shelf_highs, eJ cJ 401 (S_0_shelfu8 1)), (h_0_shelf_places, eJ cJ 401 (S_0_shelfu8 2))]) hCF hK (c_X2_isKnownAlready l D cI cJ h_0 h_0_steps h_0_newest h_0_older h_0_shelf h_0_shelf_lows h_0_shelf_highs h_0_shelf_places h_0_table h_0_origin Q_0 S_0_shelfu8 x10 hc11) (cwV 0 hts (TBL_V mw_443 mw_444 mw_445 mw_25 mw_446) rfl rfl rfl pmX2_isKnownAlready ⟨Nat.le_of_ble_eq_true rfl, Nat.le_of_ble_eq_true rfl⟩) hS hA [0, 1, 2, 3, 9, 10, 11, 12] [4, 5, 6, 7, 8, 13, 14, 15, 16] rfl rfl rfl rfl (by decide) rfl rfl rfl hl.1 rfl (Nat.le_of_ble_eq_true rfl) ⟨Nat.zero_le _, Nat.zero_le _⟩ dX2_run_156 rfl (fun H locs hS => ?_)
      refine lv_if_eq (tgt := 165) hx hb dX2_run_159 (by decide) (fun c_12 => ?_) (fun c_12 => ?_)
      · replace hF := ifp hF c_12
        refine lv_aload_n hx hb dX2_run_165 rfl (lv_at hl 0 rfl) ?_
        refine r_get hx hb hts inX2 hown hK hS 9 1 rfl rfl (by decide) q6 rfl dX2_run_166 ?_
        refine lv_iload_n hx hb dX2_run_169 rfl (lv_at hl 1 rfl) ?_
        refine lv_icmp_lt (tgt := 176) hx hb dX2_run_170 (by decide) (fun c_13 => ?_) (fun c_13 => ?_)
        · replace hF := ifp hF c_13
          refine lv_aload_n hx hb dX2_run_176 rfl (lv_at hl 0 rfl) ?_
          refine lv_iload_n hx hb dX2_run_177 rfl (lv_at hl 3 rfl) ?_
          replace hF := cal1_e hF
          obtain ⟨Q_0u14, hc15, hF⟩ := hF
          refine kV_v (As := [.int v3]) (rest := []) (wr := [(h_0_table_rules, oX1 r_0_table_rules), (h_0_origin, oX4 h_0_table_rules h_0_origin_lies h_0_origin_tops h_0_origin_list T_0_origin), (h_0_origin_lies, eI cI 16 (T_0_origin 1)), (h_0_origin_tops, eI cI 10 (T_0_origin 2)), (h_0_origin_list, eI cI 160 (T_0_origin 3)), (h_0_table, oX4 h_0_table_rules h_0_table_lies h_0_table_tops h_0_table_list T_0_tableu6), (h_0_table_lies, eI cI 16 (T_0_tableu6 1)), (h_0_table_tops, eI cI 10 (T_0_tableu6 2)), (h_0_table_list, eI cI 160 (T_0_tableu6 3))]) (w2 := [(h_0_table_rules, oX1 r_0_table_rules), (h_0_origin, oX4 h_0_table_rules h_0_origin_lies h_0_origin_tops h_0_origin_list T_0_origin), (h_0_origin_lies, eI cI 16 (T_0_origin 1)), (h_0_origin_tops, eI cI 10 (T_0_origin 2)), (h_0_origin_list, eI cI 160 (T_0_origin 3)), (h_0_table, oX4 h_0_table_rules h_0_table_lies h_0_table_tops h_0_table_list T_0_tableu6), (h_0_table_lies, eI cI 16 (T_0_tableu6 1)), (h_0_table_tops, eI cI 10 (T_0_tableu6 2)), (h_0_table_list, eI cI 160 (T_0_tableu6 3)), (h_0, oX2 h_0_table h_0_origin h_0_shelf h_0_steps h_0_newest h_0_older Q_0u14), (h_0_steps, eI cI 401 (Q_0u14 1)), (h_0_newest, eI cI 256 (Q_0u14 2)), (h_0_older, eI cI 401 (Q_0u14 3)), (h_0_shelf, oX3 h_0_shelf_lows h_0_shelf_highs h_0_shelf_places), (h_0_shelf_lows, eJ cJ 401 (S_0_shelfu8 0)), (h_0_shelf_highs, eJ cJ 401 (S_0_shelfu8 1)), (h_0_shelf_places, eJ cJ 401 (S_0_shelfu8 2))]) hCF hK (c_X2_makeKnown l D cI cJ h_0 h_0_steps h_0_newest h_0_older h_0_shelf h_0_shelf_lows h_0_shelf_highs h_0_shelf_places h_0_table h_0_origin S_0_shelfu8 Q_0 v3 Q_0u14 hc15) (cwV 1 hts (TBL_V mw_424 mw_425 mw_426 mw_25 mw_427) rfl rfl rfl pmX2_makeKnown ⟨Nat.le_of_ble_eq_true rfl, Nat.le_of_ble_eq_true rfl⟩) hS hA [9, 10, 11, 12, 13, 14, 15, 16] [0, 1, 2, 3, 4, 5, 6, 7, 8] rfl rfl rfl rfl (by decide) rfl rfl rfl hl.1 rfl (Nat.le_of_ble_eq_true rfl) ⟨Nat.zero_le _, Nat.zero_le _⟩ dX2_run_178 rfl (fun H locs hS => ?_)
          refine lv_aload_n hx hb dX2_run_181 rfl (lv_at hl 0 rfl) ?_
          refine r_get hx hb hts inX2 hown hK hS 9 0 rfl rfl (by decide) q4 rfl dX2_run_182 ?_
          replace hF := cal1_e hF
          obtain ⟨x16, hc17, hF⟩ := hF
          refine kV_i (As := []) (rest := []) (wr := [(h_0_origin, oX4 h_0_table_rules h_0_origin_lies h_0_origin_tops h_0_origin_list T_0_origin), (h_0_origin_lies, eI cI 16 (T_0_origin 1)), (h_0_origin_tops, eI cI 10 (T_0_origin 2)), (h_0_origin_list, eI cI 160 (T_0_origin 3)), (h_0, oX2 h_0_table h_0_origin h_0_shelf h_0_steps h_0_newest h_0_older Q_0u14), (h_0_steps, eI cI 401 (Q_0u14 1)), (h_0_newest, eI cI 256 (Q_0u14 2)), (h_0_older, eI cI 401 (Q_0u14 3)), (h_0_shelf, oX3 h_0_shelf_lows h_0_shelf_highs h_0_shelf_places), (h_0_shelf_lows, eJ cJ 401 (S_0_shelfu8 0)), (h_0_shelf_highs, eJ cJ 401 (S_0_shelfu8 1)), (h_0_shelf_places, eJ cJ 401 (S_0_shelfu8 2))]) (w2 := [(h_0_origin, oX4 h_0_table_rules h_0_origin_lies h_0_origin_tops h_0_origin_list T_0_origin), (h_0_origin_lies, eI cI 16 (T_0_origin 1)), (h_0_origin_tops, eI cI 10 (T_0_origin 2)), (h_0_origin_list, eI cI 160 (T_0_origin 3)), (h_0, oX2 h_0_table h_0_origin h_0_shelf h_0_steps h_0_newest h_0_older Q_0u14), (h_0_steps, eI cI 401 (Q_0u14 1)), (h_0_newest, eI cI 256 (Q_0u14 2)), (h_0_older, eI cI 401 (Q_0u14 3)), (h_0_shelf, oX3 h_0_shelf_lows h_0_shelf_highs h_0_shelf_places), (h_0_shelf_lows, eJ cJ 401 (S_0_shelfu8 0)), (h_0_shelf_highs, eJ cJ 401 (S_0_shelfu8 1)), (h_0_shelf_places, eJ cJ 401 (S_0_shelfu8 2)), (h_0_table, oX4 h_0_table_rules h_0_table_lies h_0_table_tops h_0_table_list T_0_tableu6), (h_0_table_lies, eI cI 16 (T_0_tableu6 1)), (h_0_table_tops, eI cI 10 (T_0_tableu6 2)), (h_0_table_list, eI cI 160 (T_0_tableu6 3)), (h_0_table_rules, oX1 r_0_table_rules)]) hCF hK (c_X4_isWon l D cI cJ h_0_table h_0_table_lies h_0_table_tops h_0_table_list h_0_table_rules T_0_tableu6 r_0_table_rules x16 hc17) (cwV 0 hts (TBL_V mw_434 mw_435 mw_436 mw_17 mw_437) rfl rfl rfl pmX4_isWon ⟨Nat.le_of_ble_eq_true rfl, Nat.le_of_ble_eq_true rfl⟩) hS hA [5, 6, 7, 8, 0] [1, 2, 3, 4, 9, 10, 11, 12, 13, 14, 15, 16] rfl rfl rfl rfl (by decide) rfl rfl rfl hl.1 rfl (Nat.le_of_ble_eq_true rfl) ⟨Nat.zero_le _, Nat.zero_le _⟩ dX2_run_185 rfl (fun H locs hS => ?_)
          refine lv_if_eq (tgt := 193) hx hb dX2_run_188 (by decide) (fun c_18 => ?_) (fun c_18 => ?_)
          · replace hF := ifp hF c_18
            refine lv_iinc (v := v4 + (nI 1)) (lv' := [(4, .int (v4 + (nI 1))), (0, .ref h_0), (1, .int v1), (2, .int v2), (3, .int v3)]) hx hb dX2_run_193 hl (k := 4) rfl rfl (by decide) rfl (fun ls hl => ?_)
            refine lv_goto (tgt := 101) hx hb dX2_run_196 (by decide) ?_
            exact hK101 Q_0u14 T_0_origin T_0_tableu6 S_0_shelfu8 v1 v2 v3 (v4 + (nI 1)) _ _ _ (hS.sub [4, 5, 6, 7, 0, 1, 2, 3, 12, 13, 14, 15, 8, 9, 10, 11, 16] rfl rfl) (lv_sub hl [1, 2, 3, 4, 0] rfl) hF
          · replace hF := ifn hF c_18
            refine lv_iload_n hx hb dX2_run_191 rfl (lv_at hl 3 rfl) ?_
            have e9_0 := Option.some.inj hF
            obtain ⟨f9_0, e9_1⟩ := Prod.mk.inj e9_0
            obtain ⟨f9_1, e9_2⟩ := Prod.mk.inj e9_1
            obtain ⟨f9_2, e9_3⟩ := Prod.mk.inj e9_2
            obtain ⟨f9_3, e9_4⟩ := Prod.mk.inj e9_3
            subst f9_0
            subst f9_1
            subst f9_2
            subst f9_3
            subst e9_4
            exact kret _ _ _ _ (hS.sub [4, 5, 6, 7, 0, 1, 2, 3, 12, 13, 14, 15, 8, 9, 10, 11, 16] rfl rfl) dX2_run_192
        · replace hF := ifn hF c_13
          refine lv_bipush (v := (-2)) hx hb dX2_run_173 (by decide) ?_
          have e9_0 := Option.some.inj hF
          obtain ⟨f9_0, e9_1⟩ := Prod.mk.inj e9_0
          obtain ⟨f9_1, e9_2⟩ := Prod.mk.inj e9_1
          obtain ⟨f9_2, e9_3⟩ := Prod.mk.inj e9_2
          obtain ⟨f9_3, e9_4⟩ := Prod.mk.inj e9_3
          subst f9_0
          subst f9_1
          subst f9_2
          subst f9_3
          subst e9_4
          exact kret _ _ _ _ (hS.sub [9, 10, 11, 12, 1, 2, 3, 4, 5, 6, 7, 8, 13, 14, 15, 16, 0] rfl rfl) dX2_run_175
      · replace hF := ifn hF c_12
        refine lv_goto (tgt := 193) hx hb dX2_run_162 (by decide) ?_
        refine lv_iinc (v := v4 + (nI 1)) (lv' := [(4, .int (v4 + (nI 1))), (0, .ref h_0), (1, .int v1), (2, .int v2), (3, .int v3)]) hx hb dX2_run_193 hl (k := 4) rfl rfl (by decide) rfl (fun ls hl => ?_)
        refine lv_goto (tgt := 101) hx hb dX2_run_196 (by decide) ?_
        exact hK101 Q_0 T_0_origin T_0_tableu6 S_0_shelfu8 v1 v2 v3 (v4 + (nI 1)) _ _ _ (hS.sub [9, 10, 11, 12, 1, 2, 3, 4, 5, 6, 7, 8, 13, 14, 15, 16, 0] rfl rfl) (lv_sub hl [1, 2, 3, 4, 0] rfl) hF
  have L101 : ∀ (K55 : (Nat → Nat → Int32) → (Nat → Nat → Int32) → (Nat → Nat → Int32) → (Nat → Nat → Int64) → Int32 → Int32 → Option (Int32 × (Nat → Nat → Int32) × (Nat → Nat → Int32) × (Nat → Nat → Int32) × (Nat → Nat → Int64))) (_ : ∀ (Q_0 : Nat → Nat → Int32) (T_0_origin : Nat → Nat → Int32) (T_0_table : Nat → Nat → Int32) (S_0_shelf : Nat → Nat → Int64) (v1 : Int32) (v2 : Int32) (H : Heap) (locs : List Loc) (ls : Array Slot), HS D A H0 [(h_0, oX2 h_0_table h_0_origin h_0_shelf h_0_steps h_0_newest h_0_older Q_0), (h_0_steps, eI cI 401 (Q_0 1)), (h_0_newest, eI cI 256 (Q_0 2)), (h_0_older, eI cI 401 (Q_0 3)), (h_0_origin, oX4 h_0_table_rules h_0_origin_lies h_0_origin_tops h_0_origin_list T_0_origin), (h_0_origin_lies, eI cI 16 (T_0_origin 1)), (h_0_origin_tops, eI cI 10 (T_0_origin 2)), (h_0_origin_list, eI cI 160 (T_0_origin 3)), (h_0_table, oX4 h_0_table_rules h_0_table_lies h_0_table_tops h_0_table_list T_0_table), (h_0_table_lies, eI cI 16 (T_0_table 1)), (h_0_table_tops, eI cI 10 (T_0_table 2)), (h_0_table_list, eI cI 160 (T_0_table 3)), (h_0_shelf, oX3 h_0_shelf_lows h_0_shelf_highs h_0_shelf_places), (h_0_shelf_lows, eJ cJ 401 (S_0_shelf 0)), (h_0_shelf_highs, eJ cJ 401 (S_0_shelf 1)), (h_0_shelf_places, eJ cJ 401 (S_0_shelf 2)), (h_0_table_rules, oX1 r_0_table_rules)] H locs → lv_has ls 5 [(0, .ref h_0), (1, .int v1), (2, .int v2)] → K55 Q_0 T_0_origin T_0_table S_0_shelf v1 v2 = some (rv, r_Q_0, r_T_0_origin, r_T_0_table, r_S_0_shelf) → W p l e ({ frames := 5, cells := 0, slots := 0, locals := 116 } : Room) s m args below meth c H locs 0 0 Q (F0 m 55 ls [])) (n : Nat) (Q_0 : Nat → Nat → Int32) (T_0_origin : Nat → Nat → Int32) (T_0_table : Nat → Nat → Int32) (S_0_shelf : Nat → Nat → Int64) (v1 : Int32) (v2 : Int32) (v3 : Int32) (v4 : Int32) (H : Heap) (locs : List Loc) (ls : Array Slot), HS D A H0 [(h_0, oX2 h_0_table h_0_origin h_0_shelf h_0_steps h_0_newest h_0_older Q_0), (h_0_steps, eI cI 401 (Q_0 1)), (h_0_newest, eI cI 256 (Q_0 2)), (h_0_older, eI cI 401 (Q_0 3)), (h_0_origin, oX4 h_0_table_rules h_0_origin_lies h_0_origin_tops h_0_origin_list T_0_origin), (h_0_origin_lies, eI cI 16 (T_0_origin 1)), (h_0_origin_tops, eI cI 10 (T_0_origin 2)), (h_0_origin_list, eI cI 160 (T_0_origin 3)), (h_0_table, oX4 h_0_table_rules h_0_table_lies h_0_table_tops h_0_table_list T_0_table), (h_0_table_lies, eI cI 16 (T_0_table 1)), (h_0_table_tops, eI cI 10 (T_0_table 2)), (h_0_table_list, eI cI 160 (T_0_table 3)), (h_0_shelf, oX3 h_0_shelf_lows h_0_shelf_highs h_0_shelf_places), (h_0_shelf_lows, eJ cJ 401 (S_0_shelf 0)), (h_0_shelf_highs, eJ cJ 401 (S_0_shelf 1)), (h_0_shelf_places, eJ cJ 401 (S_0_shelf 2)), (h_0_table_rules, oX1 r_0_table_rules)] H locs → lv_has ls 5 [(0, .ref h_0), (1, .int v1), (2, .int v2), (3, .int v3), (4, .int v4)] → F_X2_run_L101 r_0_table_rules K55 n Q_0 T_0_origin T_0_table S_0_shelf v1 v2 v3 v4 = some (rv, r_Q_0, r_T_0_origin, r_T_0_table, r_S_0_shelf) → W p l e ({ frames := 5, cells := 0, slots := 0, locals := 116 } : Room) s m args below meth c H locs 0 0 Q (F0 m 101 ls []) := by
    intro K55 hK55 n
    induction n with
    | zero => intro Q_0 T_0_origin T_0_table S_0_shelf v1 v2 v3 v4 H locs ls hS hl hF; exact nomatch (show (none : Option (Int32 × (Nat → Nat → Int32) × (Nat → Nat → Int32) × (Nat → Nat → Int32) × (Nat → Nat → Int64))) = some _ from hF)
    | succ n ih => intro Q_0 T_0_origin T_0_table S_0_shelf v1 v2 v3 v4 H locs ls hS hl hF; exact S101 K55 hK55 _ ih Q_0 T_0_origin T_0_table S_0_shelf v1 v2 v3 v4 H locs ls hS hl hF
  have S55 : ∀ (K55 : (Nat → Nat → Int32) → (Nat → Nat → Int32) → (Nat → Nat → Int32) → (Nat → Nat → Int64) → Int32 → Int32 → Option (Int32 × (Nat → Nat → Int32) × (Nat → Nat → Int32) × (Nat → Nat → Int32) × (Nat → Nat → Int64))) (_ : ∀ (Q_0 : Nat → Nat → Int32) (T_0_origin : Nat → Nat → Int32) (T_0_table : Nat → Nat → Int32) (S_0_shelf : Nat → Nat → Int64) (v1 : Int32) (v2 : Int32) (H : Heap) (locs : List Loc) (ls : Array Slot), HS D A H0 [(h_0, oX2 h_0_table h_0_origin h_0_shelf h_0_steps h_0_newest h_0_older Q_0), (h_0_steps, eI cI 401 (Q_0 1)), (h_0_newest, eI cI 256 (Q_0 2)), (h_0_older, eI cI 401 (Q_0 3)), (h_0_origin, oX4 h_0_table_rules h_0_origin_lies h_0_origin_tops h_0_origin_list T_0_origin), (h_0_origin_lies, eI cI 16 (T_0_origin 1)), (h_0_origin_tops, eI cI 10 (T_0_origin 2)), (h_0_origin_list, eI cI 160 (T_0_origin 3)), (h_0_table, oX4 h_0_table_rules h_0_table_lies h_0_table_tops h_0_table_list T_0_table), (h_0_table_lies, eI cI 16 (T_0_table 1)), (h_0_table_tops, eI cI 10 (T_0_table 2)), (h_0_table_list, eI cI 160 (T_0_table 3)), (h_0_shelf, oX3 h_0_shelf_lows h_0_shelf_highs h_0_shelf_places), (h_0_shelf_lows, eJ cJ 401 (S_0_shelf 0)), (h_0_shelf_highs, eJ cJ 401 (S_0_shelf 1)), (h_0_shelf_places, eJ cJ 401 (S_0_shelf 2)), (h_0_table_rules, oX1 r_0_table_rules)] H locs → lv_has ls 5 [(0, .ref h_0), (1, .int v1), (2, .int v2)] → K55 Q_0 T_0_origin T_0_table S_0_shelf v1 v2 = some (rv, r_Q_0, r_T_0_origin, r_T_0_table, r_S_0_shelf) → W p l e ({ frames := 5, cells := 0, slots := 0, locals := 116 } : Room) s m args below meth c H locs 0 0 Q (F0 m 55 ls [])) (Q_0 : Nat → Nat → Int32) (T_0_origin : Nat → Nat → Int32) (T_0_table : Nat → Nat → Int32) (S_0_shelf : Nat → Nat → Int64) (v1 : Int32) (v2 : Int32) (H : Heap) (locs : List Loc) (ls : Array Slot), HS D A H0 [(h_0, oX2 h_0_table h_0_origin h_0_shelf h_0_steps h_0_newest h_0_older Q_0), (h_0_steps, eI cI 401 (Q_0 1)), (h_0_newest, eI cI 256 (Q_0 2)), (h_0_older, eI cI 401 (Q_0 3)), (h_0_origin, oX4 h_0_table_rules h_0_origin_lies h_0_origin_tops h_0_origin_list T_0_origin), (h_0_origin_lies, eI cI 16 (T_0_origin 1)), (h_0_origin_tops, eI cI 10 (T_0_origin 2)), (h_0_origin_list, eI cI 160 (T_0_origin 3)), (h_0_table, oX4 h_0_table_rules h_0_table_lies h_0_table_tops h_0_table_list T_0_table), (h_0_table_lies, eI cI 16 (T_0_table 1)), (h_0_table_tops, eI cI 10 (T_0_table 2)), (h_0_table_list, eI cI 160 (T_0_table 3)), (h_0_shelf, oX3 h_0_shelf_lows h_0_shelf_highs h_0_shelf_places), (h_0_shelf_lows, eJ cJ 401 (S_0_shelf 0)), (h_0_shelf_highs, eJ cJ 401 (S_0_shelf 1)), (h_0_shelf_places, eJ cJ 401 (S_0_shelf 2)), (h_0_table_rules, oX1 r_0_table_rules)] H locs → lv_has ls 5 [(0, .ref h_0), (1, .int v1), (2, .int v2)] → F_X2_run_s55 r_0_table_rules K55 Q_0 T_0_origin T_0_table S_0_shelf v1 v2 = some (rv, r_Q_0, r_T_0_origin, r_T_0_table, r_S_0_shelf) → W p l e ({ frames := 5, cells := 0, slots := 0, locals := 116 } : Room) s m args below meth c H locs 0 0 Q (F0 m 55 ls []) := by
    intro K55 hK55 Q_0 T_0_origin T_0_table S_0_shelf v1 v2 H locs ls hS hl hF
    unfold F_X2_run_s55 at hF
    refine lv_iload_n hx hb dX2_run_55 rfl (lv_at hl 2 rfl) ?_
    refine lv_aload_n hx hb dX2_run_56 rfl (lv_at hl 0 rfl) ?_
    refine r_get hx hb hts inX2 hown hK hS 0 1 rfl rfl (by decide) q6 rfl dX2_run_57 ?_
    refine lv_icmp_ge (tgt := 205) hx hb dX2_run_60 (by decide) (fun c_19 => ?_) (fun c_19 => ?_)
    · replace hF := ifp hF c_19
      refine lv_iconst (v := (-1)) hx hb dX2_run_205 (by decide) ?_
      have e9_0 := Option.some.inj hF
      obtain ⟨f9_0, e9_1⟩ := Prod.mk.inj e9_0
      obtain ⟨f9_1, e9_2⟩ := Prod.mk.inj e9_1
      obtain ⟨f9_2, e9_3⟩ := Prod.mk.inj e9_2
      obtain ⟨f9_3, e9_4⟩ := Prod.mk.inj e9_3
      subst f9_0
      subst f9_1
      subst f9_2
      subst f9_3
      subst e9_4
      exact kret _ _ _ _ hS dX2_run_206
    · replace hF := ifn hF c_19
      refine lv_iload_n hx hb dX2_run_63 rfl (lv_at hl 2 rfl) ?_
      refine lv_iload_n hx hb dX2_run_64 rfl (lv_at hl 1 rfl) ?_
      refine lv_icmp_ge (tgt := 205) hx hb dX2_run_65 (by decide) (fun c_20 => ?_) (fun c_20 => ?_)
      · replace hF := ifp hF c_20
        refine lv_iconst (v := (-1)) hx hb dX2_run_205 (by decide) ?_
        have e9_0 := Option.some.inj hF
        obtain ⟨f9_0, e9_1⟩ := Prod.mk.inj e9_0
        obtain ⟨f9_1, e9_2⟩ := Prod.mk.inj e9_1
        obtain ⟨f9_2, e9_3⟩ := Prod.mk.inj e9_2
        obtain ⟨f9_3, e9_4⟩ := Prod.mk.inj e9_3
        subst f9_0
        subst f9_1
        subst f9_2
        subst f9_3
        subst e9_4
        exact kret _ _ _ _ hS dX2_run_206
      · replace hF := ifn hF c_20
        refine lv_aload_n hx hb dX2_run_68 rfl (lv_at hl 0 rfl) ?_
        refine r_get hx hb hts inX2 hown hK hS 0 4 rfl rfl (by decide) q7 rfl dX2_run_69 ?_
        refine lv_iload_n hx hb dX2_run_72 rfl (lv_at hl 2 rfl) ?_
        replace hF := cal1_e hF
        obtain ⟨x21, hc22, hF⟩ := hF
        refine kN_i (As := [.ref h_0_steps, .int v2]) (rest := []) (wr := [(h_0, oX2 h_0_table h_0_origin h_0_shelf h_0_steps h_0_newest h_0_older Q_0), (h_0_newest, eI cI 256 (Q_0 2)), (h_0_older, eI cI 401 (Q_0 3)), (h_0_origin, oX4 h_0_table_rules h_0_origin_lies h_0_origin_tops h_0_origin_list T_0_origin), (h_0_origin_lies, eI cI 16 (T_0_origin 1)), (h_0_origin_tops, eI cI 10 (T_0_origin 2)), (h_0_origin_list, eI cI 160 (T_0_origin 3)), (h_0_table, oX4 h_0_table_rules h_0_table_lies h_0_table_tops h_0_table_list T_0_table), (h_0_table_lies, eI cI 16 (T_0_table 1)), (h_0_table_tops, eI cI 10 (T_0_table 2)), (h_0_table_list, eI cI 160 (T_0_table 3)), (h_0_shelf, oX3 h_0_shelf_lows h_0_shelf_highs h_0_shelf_places), (h_0_shelf_lows, eJ cJ 401 (S_0_shelf 0)), (h_0_shelf_highs, eJ cJ 401 (S_0_shelf 1)), (h_0_shelf_places, eJ cJ 401 (S_0_shelf 2)), (h_0_table_rules, oX1 r_0_table_rules)]) (w2 := [(h_0, oX2 h_0_table h_0_origin h_0_shelf h_0_steps h_0_newest h_0_older Q_0), (h_0_newest, eI cI 256 (Q_0 2)), (h_0_older, eI cI 401 (Q_0 3)), (h_0_origin, oX4 h_0_table_rules h_0_origin_lies h_0_origin_tops h_0_origin_list T_0_origin), (h_0_origin_lies, eI cI 16 (T_0_origin 1)), (h_0_origin_tops, eI cI 10 (T_0_origin 2)), (h_0_origin_list, eI cI 160 (T_0_origin 3)), (h_0_table, oX4 h_0_table_rules h_0_table_lies h_0_table_tops h_0_table_list T_0_table), (h_0_table_lies, eI cI 16 (T_0_table 1)), (h_0_table_tops, eI cI 10 (T_0_table 2)), (h_0_table_list, eI cI 160 (T_0_table 3)), (h_0_shelf, oX3 h_0_shelf_lows h_0_shelf_highs h_0_shelf_places), (h_0_shelf_lows, eJ cJ 401 (S_0_shelf 0)), (h_0_shelf_highs, eJ cJ 401 (S_0_shelf 1)), (h_0_shelf_places, eJ cJ 401 (S_0_shelf 2)), (h_0_table_rules, oX1 r_0_table_rules), (h_0_steps, eI cI 401 (Q_0 1))]) hCF hK (c_X5_at l D cI cJ h_0_steps 401 (Q_0 1) v2 x21 hc22) (cwN 2 hK hts (TBL_C mw_114) rfl rfl rfl (host := RX5) (List.mem_of_getElem? (i := 15) rfl) (List.mem_cons_of_mem _ mw_2) (List.mem_cons_of_mem _ mw_113) pmX5_at.2 ⟨Nat.le_of_ble_eq_true rfl, Nat.le_of_ble_eq_true rfl⟩) hS hA [1] [0, 2, 3, 4, 5, 6, 7, 8, 9, 10, 11, 12, 13, 14, 15, 16] rfl rfl rfl rfl (by decide) rfl hl.1 rfl (Nat.le_of_ble_eq_true rfl) ⟨Nat.zero_le _, Nat.zero_le _⟩ dX2_run_73 rfl (fun H locs hS => ?_)
        refine lv_iconst (v := (nI 1)) hx hb dX2_run_76 (by decide) ?_
        refine lv_iadd hx hb dX2_run_77 ?_
        refine lv_istore_n (lv' := [(3, .int (x21 + (nI 1))), (0, .ref h_0), (1, .int v1), (2, .int v2)]) hx hb dX2_run_78 rfl hl (by decide) rfl (fun ls hl => ?_)
        refine lv_aload_n hx hb dX2_run_79 rfl (lv_at hl 1 rfl) ?_
        refine r_get hx hb hts inX2 hown hK hS 0 3 rfl rfl (by decide) q5 rfl dX2_run_80 ?_
        refine lv_iload_n hx hb dX2_run_83 rfl (lv_at hl 3 rfl) ?_
        refine lv_aload_n hx hb dX2_run_84 rfl (lv_at hl 1 rfl) ?_
        refine r_get hx hb hts inX2 hown hK hS 0 2 rfl rfl (by decide) q0 rfl dX2_run_85 ?_
        replace hF := cal1_e hF
        obtain ⟨T_0_originu23, hc24, hF⟩ := hF
        refine kV_v (As := [.int v2, .ref h_0_origin]) (rest := []) (wr := [(h_0, oX2 h_0_table h_0_origin h_0_shelf h_0_steps h_0_newest h_0_older Q_0), (h_0_newest, eI cI 256 (Q_0 2)), (h_0_older, eI cI 401 (Q_0 3)), (h_0_table, oX4 h_0_table_rules h_0_table_lies h_0_table_tops h_0_table_list T_0_table), (h_0_table_lies, eI cI 16 (T_0_table 1)), (h_0_table_tops, eI cI 10 (T_0_table 2)), (h_0_table_list, eI cI 160 (T_0_table 3)), (h_0_table_rules, oX1 r_0_table_rules), (h_0_steps, eI cI 401 (Q_0 1))]) (w2 := [(h_0, oX2 h_0_table h_0_origin h_0_shelf h_0_steps h_0_newest h_0_older Q_0), (h_0_newest, eI cI 256 (Q_0 2)), (h_0_older, eI cI 401 (Q_0 3)), (h_0_table, oX4 h_0_table_rules h_0_table_lies h_0_table_tops h_0_table_list T_0_table), (h_0_table_lies, eI cI 16 (T_0_table 1)), (h_0_table_tops, eI cI 10 (T_0_table 2)), (h_0_table_list, eI cI 160 (T_0_table 3)), (h_0_table_rules, oX1 r_0_table_rules), (h_0_steps, eI cI 401 (Q_0 1)), (h_0_shelf, oX3 h_0_shelf_lows h_0_shelf_highs h_0_shelf_places), (h_0_shelf_lows, eJ cJ 401 (S_0_shelf 0)), (h_0_shelf_highs, eJ cJ 401 (S_0_shelf 1)), (h_0_shelf_places, eJ cJ 401 (S_0_shelf 2)), (h_0_origin, oX4 h_0_table_rules h_0_origin_lies h_0_origin_tops h_0_origin_list T_0_originu23), (h_0_origin_lies, eI cI 16 (T_0_originu23 1)), (h_0_origin_tops, eI cI 10 (T_0_originu23 2)), (h_0_origin_list, eI cI 160 (T_0_originu23 3))]) hCF hK (c_X3_fetch l D cI cJ h_0_shelf h_0_shelf_lows h_0_shelf_highs h_0_shelf_places h_0_origin h_0_origin_lies h_0_origin_tops h_0_origin_list h_0_table_rules 401 S_0_shelf T_0_origin v2 T_0_originu23 hc24) (cwV 2 hts (TBL_V mw_439 mw_372 mw_373 mw_21 mw_374) rfl rfl rfl pmX3_fetch ⟨Nat.le_of_ble_eq_true rfl, Nat.le_of_ble_eq_true rfl⟩) hS hA [11, 12, 13, 14, 3, 4, 5, 6] [0, 1, 2, 7, 8, 9, 10, 15, 16] rfl rfl rfl rfl (by decide) rfl rfl rfl hl.1 rfl (Nat.le_of_ble_eq_true rfl) ⟨Nat.zero_le _, Nat.zero_le _⟩ dX2_run_88 rfl (fun H locs hS => ?_)
        refine lv_aload_n hx hb dX2_run_91 rfl (lv_at hl 1 rfl) ?_
        refine r_get hx hb hts inX2 hown hK hS 0 2 rfl rfl (by decide) q0 rfl dX2_run_92 ?_
        replace hF := cal1_e hF
        obtain ⟨T_0_originu25, hc26, hF⟩ := hF
        refine kV_v (As := []) (rest := []) (wr := [(h_0, oX2 h_0_table h_0_origin h_0_shelf h_0_steps h_0_newest h_0_older Q_0), (h_0_newest, eI cI 256 (Q_0 2)), (h_0_older, eI cI 401 (Q_0 3)), (h_0_table, oX4 h_0_table_rules h_0_table_lies h_0_table_tops h_0_table_list T_0_table), (h_0_table_lies, eI cI 16 (T_0_table 1)), (h_0_table_tops, eI cI 10 (T_0_table 2)), (h_0_table_list, eI cI 160 (T_0_table 3)), (h_0_steps, eI cI 401 (Q_0 1)), (h_0_shelf, oX3 h_0_shelf_lows h_0_shelf_highs h_0_shelf_places), (h_0_shelf_lows, eJ cJ 401 (S_0_shelf 0)), (h_0_shelf_highs, eJ cJ 401 (S_0_shelf 1)), (h_0_shelf_places, eJ cJ 401 (S_0_shelf 2))]) (w2 := [(h_0, oX2 h_0_table h_0_origin h_0_shelf h_0_steps h_0_newest h_0_older Q_0), (h_0_newest, eI cI 256 (Q_0 2)), (h_0_older, eI cI 401 (Q_0 3)), (h_0_table, oX4 h_0_table_rules h_0_table_lies h_0_table_tops h_0_table_list T_0_table), (h_0_table_lies, eI cI 16 (T_0_table 1)), (h_0_table_tops, eI cI 10 (T_0_table 2)), (h_0_table_list, eI cI 160 (T_0_table 3)), (h_0_steps, eI cI 401 (Q_0 1)), (h_0_shelf, oX3 h_0_shelf_lows h_0_shelf_highs h_0_shelf_places), (h_0_shelf_lows, eJ cJ 401 (S_0_shelf 0)), (h_0_shelf_highs, eJ cJ 401 (S_0_shelf 1)), (h_0_shelf_places, eJ cJ 401 (S_0_shelf 2)), (h_0_origin, oX4 h_0_table_rules h_0_origin_lies h_0_origin_tops h_0_origin_list T_0_originu25), (h_0_origin_lies, eI cI 16 (T_0_originu25 1)), (h_0_origin_tops, eI cI 10 (T_0_originu25 2)), (h_0_origin_list, eI cI 160 (T_0_originu25 3)), (h_0_table_rules, oX1 r_0_table_rules)]) hCF hK (c_X4_listMoves l D cI cJ h_0_origin h_0_origin_lies h_0_origin_tops h_0_origin_list h_0_table_rules r_0_table_rules T_0_originu23 T_0_originu25 hc26) (cwV 0 hts (TBL_V mw_440 mw_240 mw_241 mw_17 mw_242) rfl rfl rfl pmX4_listMoves ⟨Nat.le_of_ble_eq_true rfl, Nat.le_of_ble_eq_true rfl⟩) hS hA [13, 14, 15, 16, 7] [0, 1, 2, 3, 4, 5, 6, 8, 9, 10, 11, 12] rfl rfl rfl rfl (by decide) rfl rfl rfl hl.1 rfl (Nat.le_of_ble_eq_true rfl) ⟨Nat.zero_le _, Nat.zero_le _⟩ dX2_run_95 rfl (fun H locs hS => ?_)
        refine lv_iconst (v := (nI 0)) hx hb dX2_run_98 (by decide) ?_
        refine lv_istore (lv' := [(4, .int (nI 0)), (3, .int (x21 + (nI 1))), (0, .ref h_0), (1, .int v1), (2, .int v2)]) hx hb dX2_run_99 hl (by decide) rfl (fun ls hl => ?_)
        exact L101 K55 hK55 FU Q_0 T_0_originu25 T_0_table S_0_shelf v1 v2 (x21 + (nI 1)) (nI 0) _ _ _ (hS.sub [0, 7, 1, 2, 12, 13, 14, 15, 3, 4, 5, 6, 8, 9, 10, 11, 16] rfl rfl) (lv_sub hl [2, 3, 4, 1, 0] rfl) hF
  have L55 : ∀  (n : Nat) (Q_0 : Nat → Nat → Int32) (T_0_origin : Nat → Nat → Int32) (T_0_table : Nat → Nat → Int32) (S_0_shelf : Nat → Nat → Int64) (v1 : Int32) (v2 : Int32) (H : Heap) (locs : List Loc) (ls : Array Slot), HS D A H0 [(h_0, oX2 h_0_table h_0_origin h_0_shelf h_0_steps h_0_newest h_0_older Q_0), (h_0_steps, eI cI 401 (Q_0 1)), (h_0_newest, eI cI 256 (Q_0 2)), (h_0_older, eI cI 401 (Q_0 3)), (h_0_origin, oX4 h_0_table_rules h_0_origin_lies h_0_origin_tops h_0_origin_list T_0_origin), (h_0_origin_lies, eI cI 16 (T_0_origin 1)), (h_0_origin_tops, eI cI 10 (T_0_origin 2)), (h_0_origin_list, eI cI 160 (T_0_origin 3)), (h_0_table, oX4 h_0_table_rules h_0_table_lies h_0_table_tops h_0_table_list T_0_table), (h_0_table_lies, eI cI 16 (T_0_table 1)), (h_0_table_tops, eI cI 10 (T_0_table 2)), (h_0_table_list, eI cI 160 (T_0_table 3)), (h_0_shelf, oX3 h_0_shelf_lows h_0_shelf_highs h_0_shelf_places), (h_0_shelf_lows, eJ cJ 401 (S_0_shelf 0)), (h_0_shelf_highs, eJ cJ 401 (S_0_shelf 1)), (h_0_shelf_places, eJ cJ 401 (S_0_shelf 2)), (h_0_table_rules, oX1 r_0_table_rules)] H locs → lv_has ls 5 [(0, .ref h_0), (1, .int v1), (2, .int v2)] → F_X2_run_L55 r_0_table_rules  n Q_0 T_0_origin T_0_table S_0_shelf v1 v2 = some (rv, r_Q_0, r_T_0_origin, r_T_0_table, r_S_0_shelf) → W p l e ({ frames := 5, cells := 0, slots := 0, locals := 116 } : Room) s m args below meth c H locs 0 0 Q (F0 m 55 ls []) := by
    intro  n
    induction n with
    | zero => intro Q_0 T_0_origin T_0_table S_0_shelf v1 v2 H locs ls hS hl hF; exact nomatch (show (none : Option (Int32 × (Nat → Nat → Int32) × (Nat → Nat → Int32) × (Nat → Nat → Int32) × (Nat → Nat → Int64))) = some _ from hF)
    | succ n ih => intro Q_0 T_0_origin T_0_table S_0_shelf v1 v2 H locs ls hS hl hF; exact S55  _ ih Q_0 T_0_origin T_0_table S_0_shelf v1 v2 H locs ls hS hl hF
  unfold F_X2_run at hF
  refine lv_aload_n hx hb dX2_run_0 rfl (lv_at hl 0 rfl) ?_
  refine r_get hx hb hts inX2 hown hK hS 0 5 rfl rfl (by decide) q8 rfl dX2_run_1 ?_
  refine lv_iconst (v := (-1)) hx hb dX2_run_4 (by decide) ?_
  replace hF := cal1_e hF
  obtain ⟨f27, hc28, hF⟩ := hF
  replace hF := bnd_e hF
  obtain ⟨Q_0u29, eQ_0u29, hF⟩ := hF
  refine kS_v (As := [.ref h_0_newest, .int (-1)]) (rest := []) (wr := [(h_0, oX2 h_0_table h_0_origin h_0_shelf h_0_steps h_0_newest h_0_older Q_0), (h_0_steps, eI cI 401 (Q_0 1)), (h_0_older, eI cI 401 (Q_0 3)), (h_0_origin, oX4 g_0_origin_rules h_0_origin_lies h_0_origin_tops h_0_origin_list T_0_origin), (h_0_origin_lies, eI cI 16 (T_0_origin 1)), (h_0_origin_tops, eI cI 10 (T_0_origin 2)), (h_0_origin_list, eI cI 160 (T_0_origin 3)), (h_0_table, oX4 h_0_table_rules h_0_table_lies h_0_table_tops h_0_table_list T_0_table), (h_0_table_lies, eI cI 16 (T_0_table 1)), (h_0_table_tops, eI cI 10 (T_0_table 2)), (h_0_table_list, eI cI 160 (T_0_table 3)), (h_0_shelf, oX3 h_0_shelf_lows h_0_shelf_highs h_0_shelf_places), (h_0_shelf_lows, eJ cJ 401 (S_0_shelf 0)), (h_0_shelf_highs, eJ cJ 401 (S_0_shelf 1)), (h_0_shelf_places, eJ cJ 401 (S_0_shelf 2)), (h_0_table_rules, oX1 r_0_table_rules)]) (w2 := [(h_0, oX2 h_0_table h_0_origin h_0_shelf h_0_steps h_0_newest h_0_older Q_0u29), (h_0_steps, eI cI 401 (Q_0u29 1)), (h_0_older, eI cI 401 (Q_0u29 3)), (h_0_origin, oX4 g_0_origin_rules h_0_origin_lies h_0_origin_tops h_0_origin_list T_0_origin), (h_0_origin_lies, eI cI 16 (T_0_origin 1)), (h_0_origin_tops, eI cI 10 (T_0_origin 2)), (h_0_origin_list, eI cI 160 (T_0_origin 3)), (h_0_table, oX4 h_0_table_rules h_0_table_lies h_0_table_tops h_0_table_list T_0_table), (h_0_table_lies, eI cI 16 (T_0_table 1)), (h_0_table_tops, eI cI 10 (T_0_table 2)), (h_0_table_list, eI cI 160 (T_0_table 3)), (h_0_shelf, oX3 h_0_shelf_lows h_0_shelf_highs h_0_shelf_places), (h_0_shelf_lows, eJ cJ 401 (S_0_shelf 0)), (h_0_shelf_highs, eJ cJ 401 (S_0_shelf 1)), (h_0_shelf_places, eJ cJ 401 (S_0_shelf 2)), (h_0_table_rules, oX1 r_0_table_rules), (h_0_newest, eI cI 256 (Q_0u29 2))]) hCF hK (c_J7_fill_53178 l D cI cJ h_0_newest 256 (Q_0 2) (-1) f27 hc28) (va_cwS 2 hts (TBL_S mw_421 mw_124 mw_125 mw_126) rfl rfl rfl pmJ7_fill_53178.2 ⟨Nat.le_of_ble_eq_true rfl, Nat.le_of_ble_eq_true rfl⟩) hS hA [2] [0, 1, 3, 4, 5, 6, 7, 8, 9, 10, 11, 12, 13, 14, 15, 16] rfl rfl rfl rfl (by decide) rfl hl.1 rfl (Nat.le_of_ble_eq_true rfl) ⟨Nat.zero_le _, Nat.zero_le _⟩ dX2_run_5 (by rw [eQ_0u29]; rfl) (fun H locs hS => ?_)
  refine lv_aload_n hx hb dX2_run_8 rfl (lv_at hl 0 rfl) ?_
  refine lv_iconst (v := (nI 0)) hx hb dX2_run_9 (by decide) ?_
  replace hF := bnd_e hF
  obtain ⟨Q_0u30, eQ_0u30, hF⟩ := hF
  refine r_put (w2 := [(h_0, oX2 h_0_table h_0_origin h_0_shelf h_0_steps h_0_newest h_0_older Q_0u30), (h_0_steps, eI cI 401 (Q_0u30 1)), (h_0_older, eI cI 401 (Q_0u30 3)), (h_0_origin, oX4 g_0_origin_rules h_0_origin_lies h_0_origin_tops h_0_origin_list T_0_origin), (h_0_origin_lies, eI cI 16 (T_0_origin 1)), (h_0_origin_tops, eI cI 10 (T_0_origin 2)), (h_0_origin_list, eI cI 160 (T_0_origin 3)), (h_0_table, oX4 h_0_table_rules h_0_table_lies h_0_table_tops h_0_table_list T_0_table), (h_0_table_lies, eI cI 16 (T_0_table 1)), (h_0_table_tops, eI cI 10 (T_0_table 2)), (h_0_table_list, eI cI 160 (T_0_table 3)), (h_0_shelf, oX3 h_0_shelf_lows h_0_shelf_highs h_0_shelf_places), (h_0_shelf_lows, eJ cJ 401 (S_0_shelf 0)), (h_0_shelf_highs, eJ cJ 401 (S_0_shelf 1)), (h_0_shelf_places, eJ cJ 401 (S_0_shelf 2)), (h_0_table_rules, oX1 r_0_table_rules), (h_0_newest, eI cI 256 (Q_0u30 2))]) hx hb hts inX2 tyX2 tyX2_ok nmX2 hown hK hS 0 1 rfl rfl (by decide) q6 rfl rfl rfl (Nat.le_of_ble_eq_true rfl) dX2_run_10 (by rw [eQ_0u30]; rfl) (fun H locs hS => ?_)
  refine lv_aload_n hx hb dX2_run_13 rfl (lv_at hl 0 rfl) ?_
  refine r_get hx hb hts inX2 hown hK hS 0 2 rfl rfl (by decide) q0 rfl dX2_run_14 ?_
  refine lv_aload_n hx hb dX2_run_17 rfl (lv_at hl 0 rfl) ?_
  refine r_get hx hb hts inX2 hown hK hS 0 0 rfl rfl (by decide) q4 rfl dX2_run_18 ?_
  replace hF := cal1_e hF
  obtain ⟨T_0_originu31, hc32, hF⟩ := hF
  refine kV_v (As := [.ref h_0_table]) (rest := []) (wr := [(h_0, oX2 h_0_table h_0_origin h_0_shelf h_0_steps h_0_newest h_0_older Q_0u30), (h_0_steps, eI cI 401 (Q_0u30 1)), (h_0_older, eI cI 401 (Q_0u30 3)), (h_0_shelf, oX3 h_0_shelf_lows h_0_shelf_highs h_0_shelf_places), (h_0_shelf_lows, eJ cJ 401 (S_0_shelf 0)), (h_0_shelf_highs, eJ cJ 401 (S_0_shelf 1)), (h_0_shelf_places, eJ cJ 401 (S_0_shelf 2)), (h_0_table_rules, oX1 r_0_table_rules), (h_0_newest, eI cI 256 (Q_0u30 2))]) (w2 := [(h_0, oX2 h_0_table h_0_origin h_0_shelf h_0_steps h_0_newest h_0_older Q_0u30), (h_0_steps, eI cI 401 (Q_0u30 1)), (h_0_older, eI cI 401 (Q_0u30 3)), (h_0_shelf, oX3 h_0_shelf_lows h_0_shelf_highs h_0_shelf_places), (h_0_shelf_lows, eJ cJ 401 (S_0_shelf 0)), (h_0_shelf_highs, eJ cJ 401 (S_0_shelf 1)), (h_0_shelf_places, eJ cJ 401 (S_0_shelf 2)), (h_0_table_rules, oX1 r_0_table_rules), (h_0_newest, eI cI 256 (Q_0u30 2)), (h_0_origin, oX4 h_0_table_rules h_0_origin_lies h_0_origin_tops h_0_origin_list T_0_originu31), (h_0_origin_lies, eI cI 16 (T_0_originu31 1)), (h_0_origin_tops, eI cI 10 (T_0_originu31 2)), (h_0_origin_list, eI cI 160 (T_0_originu31 3)), (h_0_table, oX4 h_0_table_rules h_0_table_lies h_0_table_tops h_0_table_list T_0_table), (h_0_table_lies, eI cI 16 (T_0_table 1)), (h_0_table_tops, eI cI 10 (T_0_table 2)), (h_0_table_list, eI cI 160 (T_0_table 3))]) hCF hK (c_X4_copyFrom l D cI cJ h_0_origin h_0_origin_lies h_0_origin_tops h_0_origin_list h_0_table h_0_table_lies h_0_table_tops h_0_table_list g_0_origin_rules h_0_table_rules T_0_table T_0_origin T_0_originu31 hc32) (cwV 1 hts (TBL_V mw_422 mw_409 mw_410 mw_17 mw_411) rfl rfl rfl pmX4_copyFrom ⟨Nat.le_of_ble_eq_true rfl, Nat.le_of_ble_eq_true rfl⟩) hS hA [3, 4, 5, 6, 7, 8, 9, 10] [0, 1, 2, 11, 12, 13, 14, 15, 16] rfl rfl rfl rfl (by decide) rfl rfl rfl hl.1 rfl (Nat.le_of_ble_eq_true rfl) ⟨Nat.zero_le _, Nat.zero_le _⟩ dX2_run_21 rfl (fun H locs hS => ?_)
  refine lv_aload_n hx hb dX2_run_24 rfl (lv_at hl 0 rfl) ?_
  refine r_get hx hb hts inX2 hown hK hS 0 3 rfl rfl (by decide) q5 rfl dX2_run_25 ?_
  refine lv_iconst (v := (nI 0)) hx hb dX2_run_28 (by decide) ?_
  refine lv_aload_n hx hb dX2_run_29 rfl (lv_at hl 0 rfl) ?_
  refine r_get hx hb hts inX2 hown hK hS 0 0 rfl rfl (by decide) q4 rfl dX2_run_30 ?_
  replace hF := cal1_e hF
  obtain ⟨S_0_shelfu33, hc34, hF⟩ := hF
  refine kV_v (As := [.int (nI 0), .ref h_0_table]) (rest := []) (wr := [(h_0, oX2 h_0_table h_0_origin h_0_shelf h_0_steps h_0_newest h_0_older Q_0u30), (h_0_steps, eI cI 401 (Q_0u30 1)), (h_0_older, eI cI 401 (Q_0u30 3)), (h_0_table_rules, oX1 r_0_table_rules), (h_0_newest, eI cI 256 (Q_0u30 2)), (h_0_origin, oX4 h_0_table_rules h_0_origin_lies h_0_origin_tops h_0_origin_list T_0_originu31), (h_0_origin_lies, eI cI 16 (T_0_originu31 1)), (h_0_origin_tops, eI cI 10 (T_0_originu31 2)), (h_0_origin_list, eI cI 160 (T_0_originu31 3))]) (w2 := [(h_0, oX2 h_0_table h_0_origin h_0_shelf h_0_steps h_0_newest h_0_older Q_0u30), (h_0_steps, eI cI 401 (Q_0u30 1)), (h_0_older, eI cI 401 (Q_0u30 3)), (h_0_table_rules, oX1 r_0_table_rules), (h_0_newest, eI cI 256 (Q_0u30 2)), (h_0_origin, oX4 h_0_table_rules h_0_origin_lies h_0_origin_tops h_0_origin_list T_0_originu31), (h_0_origin_lies, eI cI 16 (T_0_originu31 1)), (h_0_origin_tops, eI cI 10 (T_0_originu31 2)), (h_0_origin_list, eI cI 160 (T_0_originu31 3)), (h_0_shelf, oX3 h_0_shelf_lows h_0_shelf_highs h_0_shelf_places), (h_0_shelf_lows, eJ cJ 401 (S_0_shelfu33 0)), (h_0_shelf_highs, eJ cJ 401 (S_0_shelfu33 1)), (h_0_shelf_places, eJ cJ 401 (S_0_shelfu33 2)), (h_0_table, oX4 h_0_table_rules h_0_table_lies h_0_table_tops h_0_table_list T_0_table), (h_0_table_lies, eI cI 16 (T_0_table 1)), (h_0_table_tops, eI cI 10 (T_0_table 2)), (h_0_table_list, eI cI 160 (T_0_table 3))]) hCF hK (c_X3_keep l D cI cJ h_0_shelf h_0_shelf_lows h_0_shelf_highs h_0_shelf_places h_0_table h_0_table_lies h_0_table_tops h_0_table_list h_0_table_rules 401 T_0_table S_0_shelf (nI 0) S_0_shelfu33 hc34) (cwV 2 hts (TBL_V mw_423 mw_332 mw_333 mw_21 mw_334) rfl rfl rfl pmX3_keep ⟨Nat.le_of_ble_eq_true rfl, Nat.le_of_ble_eq_true rfl⟩) hS hA [3, 4, 5, 6, 13, 14, 15, 16] [0, 1, 2, 7, 8, 9, 10, 11, 12] rfl rfl rfl rfl (by decide) rfl rfl rfl hl.1 rfl (Nat.le_of_ble_eq_true rfl) ⟨Nat.zero_le _, Nat.zero_le _⟩ dX2_run_33 rfl (fun H locs hS => ?_)
  refine lv_aload_n hx hb dX2_run_36 rfl (lv_at hl 0 rfl) ?_
  refine lv_iconst (v := (nI 0)) hx hb dX2_run_37 (by decide) ?_
  replace hF := cal1_e hF
  obtain ⟨Q_0u35, hc36, hF⟩ := hF
  refine kV_v (As := [.int (nI 0)]) (rest := []) (wr := [(h_0_table_rules, oX1 r_0_table_rules), (h_0_origin, oX4 h_0_table_rules h_0_origin_lies h_0_origin_tops h_0_origin_list T_0_originu31), (h_0_origin_lies, eI cI 16 (T_0_originu31 1)), (h_0_origin_tops, eI cI 10 (T_0_originu31 2)), (h_0_origin_list, eI cI 160 (T_0_originu31 3)), (h_0_table, oX4 h_0_table_rules h_0_table_lies h_0_table_tops h_0_table_list T_0_table), (h_0_table_lies, eI cI 16 (T_0_table 1)), (h_0_table_tops, eI cI 10 (T_0_table 2)), (h_0_table_list, eI cI 160 (T_0_table 3))]) (w2 := [(h_0_table_rules, oX1 r_0_table_rules), (h_0_origin, oX4 h_0_table_rules h_0_origin_lies h_0_origin_tops h_0_origin_list T_0_originu31), (h_0_origin_lies, eI cI 16 (T_0_originu31 1)), (h_0_origin_tops, eI cI 10 (T_0_originu31 2)), (h_0_origin_list, eI cI 160 (T_0_originu31 3)), (h_0_table, oX4 h_0_table_rules h_0_table_lies h_0_table_tops h_0_table_list T_0_table), (h_0_table_lies, eI cI 16 (T_0_table 1)), (h_0_table_tops, eI cI 10 (T_0_table 2)), (h_0_table_list, eI cI 160 (T_0_table 3)), (h_0, oX2 h_0_table h_0_origin h_0_shelf h_0_steps h_0_newest h_0_older Q_0u35), (h_0_steps, eI cI 401 (Q_0u35 1)), (h_0_newest, eI cI 256 (Q_0u35 2)), (h_0_older, eI cI 401 (Q_0u35 3)), (h_0_shelf, oX3 h_0_shelf_lows h_0_shelf_highs h_0_shelf_places), (h_0_shelf_lows, eJ cJ 401 (S_0_shelfu33 0)), (h_0_shelf_highs, eJ cJ 401 (S_0_shelfu33 1)), (h_0_shelf_places, eJ cJ 401 (S_0_shelfu33 2))]) hCF hK (c_X2_makeKnown l D cI cJ h_0 h_0_steps h_0_newest h_0_older h_0_shelf h_0_shelf_lows h_0_shelf_highs h_0_shelf_places h_0_table h_0_origin S_0_shelfu33 Q_0u30 (nI 0) Q_0u35 hc36) (cwV 1 hts (TBL_V mw_424 mw_425 mw_426 mw_25 mw_427) rfl rfl rfl pmX2_makeKnown ⟨Nat.le_of_ble_eq_true rfl, Nat.le_of_ble_eq_true rfl⟩) hS hA [0, 1, 4, 2, 9, 10, 11, 12] [3, 5, 6, 7, 8, 13, 14, 15, 16] rfl rfl rfl rfl (by decide) rfl rfl rfl hl.1 rfl (Nat.le_of_ble_eq_true rfl) ⟨Nat.zero_le _, Nat.zero_le _⟩ dX2_run_38 rfl (fun H locs hS => ?_)
  refine lv_aload_n hx hb dX2_run_41 rfl (lv_at hl 0 rfl) ?_
  refine r_get hx hb hts inX2 hown hK hS 9 0 rfl rfl (by decide) q4 rfl dX2_run_42 ?_
  replace hF := cal1_e hF
  obtain ⟨x37, hc38, hF⟩ := hF
  refine kV_i (As := []) (rest := []) (wr := [(h_0_origin, oX4 h_0_table_rules h_0_origin_lies h_0_origin_tops h_0_origin_list T_0_originu31), (h_0_origin_lies, eI cI 16 (T_0_originu31 1)), (h_0_origin_tops, eI cI 10 (T_0_originu31 2)), (h_0_origin_list, eI cI 160 (T_0_originu31 3)), (h_0, oX2 h_0_table h_0_origin h_0_shelf h_0_steps h_0_newest h_0_older Q_0u35), (h_0_steps, eI cI 401 (Q_0u35 1)), (h_0_newest, eI cI 256 (Q_0u35 2)), (h_0_older, eI cI 401 (Q_0u35 3)), (h_0_shelf, oX3 h_0_shelf_lows h_0_shelf_highs h_0_shelf_places), (h_0_shelf_lows, eJ cJ 401 (S_0_shelfu33 0)), (h_0_shelf_highs, eJ cJ 401 (S_0_shelfu33 1)), (h_0_shelf_places, eJ cJ 401 (S_0_shelfu33 2))]) (w2 := [(h_0_origin, oX4 h_0_table_rules h_0_origin_lies h_0_origin_tops h_0_origin_list T_0_originu31), (h_0_origin_lies, eI cI 16 (T_0_originu31 1)), (h_0_origin_tops, eI cI 10 (T_0_originu31 2)), (h_0_origin_list, eI cI 160 (T_0_originu31 3)), (h_0, oX2 h_0_table h_0_origin h_0_shelf h_0_steps h_0_newest h_0_older Q_0u35), (h_0_steps, eI cI 401 (Q_0u35 1)), (h_0_newest, eI cI 256 (Q_0u35 2)), (h_0_older, eI cI 401 (Q_0u35 3)), (h_0_shelf, oX3 h_0_shelf_lows h_0_shelf_highs h_0_shelf_places), (h_0_shelf_lows, eJ cJ 401 (S_0_shelfu33 0)), (h_0_shelf_highs, eJ cJ 401 (S_0_shelfu33 1)), (h_0_shelf_places, eJ cJ 401 (S_0_shelfu33 2)), (h_0_table, oX4 h_0_table_rules h_0_table_lies h_0_table_tops h_0_table_list T_0_table), (h_0_table_lies, eI cI 16 (T_0_table 1)), (h_0_table_tops, eI cI 10 (T_0_table 2)), (h_0_table_list, eI cI 160 (T_0_table 3)), (h_0_table_rules, oX1 r_0_table_rules)]) hCF hK (c_X4_isWon l D cI cJ h_0_table h_0_table_lies h_0_table_tops h_0_table_list h_0_table_rules T_0_table r_0_table_rules x37 hc38) (cwV 0 hts (TBL_V mw_434 mw_435 mw_436 mw_17 mw_437) rfl rfl rfl pmX4_isWon ⟨Nat.le_of_ble_eq_true rfl, Nat.le_of_ble_eq_true rfl⟩) hS hA [5, 6, 7, 8, 0] [1, 2, 3, 4, 9, 10, 11, 12, 13, 14, 15, 16] rfl rfl rfl rfl (by decide) rfl rfl rfl hl.1 rfl (Nat.le_of_ble_eq_true rfl) ⟨Nat.zero_le _, Nat.zero_le _⟩ dX2_run_45 rfl (fun H locs hS => ?_)
  refine lv_if_eq (tgt := 53) hx hb dX2_run_48 (by decide) (fun c_39 => ?_) (fun c_39 => ?_)
  · replace hF := ifp hF c_39
    refine lv_iconst (v := (nI 0)) hx hb dX2_run_53 (by decide) ?_
    refine lv_istore_n (lv' := [(2, .int (nI 0)), (0, .ref h_0), (1, .int v1)]) hx hb dX2_run_54 rfl hl (by decide) rfl (fun ls hl => ?_)
    exact L55 FU Q_0u35 T_0_originu31 T_0_table S_0_shelfu33 v1 (nI 0) _ _ _ (hS.sub [4, 5, 6, 7, 0, 1, 2, 3, 12, 13, 14, 15, 8, 9, 10, 11, 16] rfl rfl) (lv_sub hl [1, 2, 0] rfl) hF
  · replace hF := ifn hF c_39
    refine lv_iconst (v := (nI 0)) hx hb dX2_run_51 (by decide) ?_
    have e9_0 := Option.some.inj hF
    obtain ⟨f9_0, e9_1⟩ := Prod.mk.inj e9_0
    obtain ⟨f9_1, e9_2⟩ := Prod.mk.inj e9_1
    obtain ⟨f9_2, e9_3⟩ := Prod.mk.inj e9_2
    obtain ⟨f9_3, e9_4⟩ := Prod.mk.inj e9_3
    subst f9_0
    subst f9_1
    subst f9_2
    subst f9_3
    subst e9_4
    exact kret _ _ _ _ (hS.sub [4, 5, 6, 7, 0, 1, 2, 3, 12, 13, 14, 15, 8, 9, 10, 11, 16] rfl rfl) dX2_run_52
set_option maxHeartbeats 4000000 in
set_option maxRecDepth 100000 in
theorem c_X5_hint (l : Launch) (D : va_G) (cI cJ : ClassId) (h_0 h_0_searcher h_0_searcher_steps h_0_searcher_newest h_0_searcher_older h_0_searcher_table h_0_searcher_table_lies h_0_searcher_table_tops h_0_searcher_table_list h_0_now h_0_now_lies h_0_now_tops h_0_now_list h_0_searcher_origin h_0_searcher_origin_lies h_0_searcher_origin_tops h_0_searcher_origin_list h_0_searcher_shelf h_0_searcher_shelf_lows h_0_searcher_shelf_highs h_0_searcher_shelf_places h_0_rules g_0_nextRules g_0_past g_0_dealt g_0_tried g_0_searcher_table_rules g_0_searcher_origin_rules : Nat) (P_0 : Nat → Int32) (r_0_rules : Nat → Int32) (Q_0_searcher : Nat → Nat → Int32) (T_0_searcher_table : Nat → Nat → Int32) (T_0_now : Nat → Nat → Int32) (T_0_searcher_origin : Nat → Nat → Int32) (S_0_searcher_shelf : Nat → Nat → Int64) (rv : Int32) (r_Q_0_searcher : Nat → Nat → Int32) (r_T_0_searcher_table : Nat → Nat → Int32) (r_T_0_now : Nat → Nat → Int32) (r_T_0_searcher_origin : Nat → Nat → Int32) (r_S_0_searcher_shelf : Nat → Nat → Int64) (hF : F_X5_hint P_0 r_0_rules Q_0_searcher T_0_searcher_table T_0_now T_0_searcher_origin S_0_searcher_shelf = some (rv, r_Q_0_searcher, r_T_0_searcher_table, r_T_0_now, r_T_0_searcher_origin, r_S_0_searcher_shelf)) : CtI l D [(cI, .int), (cJ, .long)] yX5_hint wtX5_hint ({ frames := 6, cells := 0, slots := 0, locals := 140 } : Room) [.ref h_0] [(h_0, oX5 g_0_nextRules h_0_rules h_0_now g_0_past h_0_searcher g_0_dealt g_0_tried P_0), (h_0_searcher, oX2 h_0_searcher_table h_0_searcher_origin h_0_searcher_shelf h_0_searcher_steps h_0_searcher_newest h_0_searcher_older Q_0_searcher), (h_0_searcher_steps, eI cI 401 (Q_0_searcher 1)), (h_0_searcher_newest, eI cI 256 (Q_0_searcher 2)), (h_0_searcher_older, eI cI 401 (Q_0_searcher 3)), (h_0_searcher_table, oX4 g_0_searcher_table_rules h_0_searcher_table_lies h_0_searcher_table_tops h_0_searcher_table_list T_0_searcher_table), (h_0_searcher_table_lies, eI cI 16 (T_0_searcher_table 1)), (h_0_searcher_table_tops, eI cI 10 (T_0_searcher_table 2)), (h_0_searcher_table_list, eI cI 160 (T_0_searcher_table 3)), (h_0_now, oX4 h_0_rules h_0_now_lies h_0_now_tops h_0_now_list T_0_now), (h_0_now_lies, eI cI 16 (T_0_now 1)), (h_0_now_tops, eI cI 10 (T_0_now 2)), (h_0_now_list, eI cI 160 (T_0_now 3)), (h_0_searcher_origin, oX4 g_0_searcher_origin_rules h_0_searcher_origin_lies h_0_searcher_origin_tops h_0_searcher_origin_list T_0_searcher_origin), (h_0_searcher_origin_lies, eI cI 16 (T_0_searcher_origin 1)), (h_0_searcher_origin_tops, eI cI 10 (T_0_searcher_origin 2)), (h_0_searcher_origin_list, eI cI 160 (T_0_searcher_origin 3)), (h_0_searcher_shelf, oX3 h_0_searcher_shelf_lows h_0_searcher_shelf_highs h_0_searcher_shelf_places), (h_0_searcher_shelf_lows, eJ cJ 401 (S_0_searcher_shelf 0)), (h_0_searcher_shelf_highs, eJ cJ 401 (S_0_searcher_shelf 1)), (h_0_searcher_shelf_places, eJ cJ 401 (S_0_searcher_shelf 2)), (h_0_rules, oX1 r_0_rules)] [(h_0, oX5 g_0_nextRules h_0_rules h_0_now g_0_past h_0_searcher g_0_dealt g_0_tried P_0), (h_0_searcher, oX2 h_0_searcher_table h_0_searcher_origin h_0_searcher_shelf h_0_searcher_steps h_0_searcher_newest h_0_searcher_older r_Q_0_searcher), (h_0_searcher_steps, eI cI 401 (r_Q_0_searcher 1)), (h_0_searcher_newest, eI cI 256 (r_Q_0_searcher 2)), (h_0_searcher_older, eI cI 401 (r_Q_0_searcher 3)), (h_0_searcher_table, oX4 h_0_rules h_0_searcher_table_lies h_0_searcher_table_tops h_0_searcher_table_list r_T_0_searcher_table), (h_0_searcher_table_lies, eI cI 16 (r_T_0_searcher_table 1)), (h_0_searcher_table_tops, eI cI 10 (r_T_0_searcher_table 2)), (h_0_searcher_table_list, eI cI 160 (r_T_0_searcher_table 3)), (h_0_now, oX4 h_0_rules h_0_now_lies h_0_now_tops h_0_now_list r_T_0_now), (h_0_now_lies, eI cI 16 (r_T_0_now 1)), (h_0_now_tops, eI cI 10 (r_T_0_now 2)), (h_0_now_list, eI cI 160 (r_T_0_now 3)), (h_0_searcher_origin, oX4 h_0_rules h_0_searcher_origin_lies h_0_searcher_origin_tops h_0_searcher_origin_list r_T_0_searcher_origin), (h_0_searcher_origin_lies, eI cI 16 (r_T_0_searcher_origin 1)), (h_0_searcher_origin_tops, eI cI 10 (r_T_0_searcher_origin 2)), (h_0_searcher_origin_list, eI cI 160 (r_T_0_searcher_origin 3)), (h_0_searcher_shelf, oX3 h_0_searcher_shelf_lows h_0_searcher_shelf_highs h_0_searcher_shelf_places), (h_0_searcher_shelf_lows, eJ cJ 401 (r_S_0_searcher_shelf 0)), (h_0_searcher_shelf_highs, eJ cJ 401 (r_S_0_searcher_shelf 1)), (h_0_searcher_shelf_places, eJ cJ 401 (r_S_0_searcher_shelf 2)), (h_0_rules, oX1 r_0_rules)] rv := by
  refine CtI.of (cc := cX5_hint) (maxL := 4) (by decide) rfl (Nat.le_of_ble_eq_true rfl) ?_
  intro p e s m args below meth c A H0 Q ls X hS hl kret
  have hCF := X.1
  obtain ⟨⟨hx, hb, hml, hown, hts⟩, hK, hA⟩ := X
  have hl : lv_has ls 4 [(0, .ref h_0)] := hl
  have q0 := hts (.fieldLink RX5 22 "Patiencery" "now" "LPatiencery$Table;") (List.mem_cons_of_mem _ mw_18)
  have inX5 : ∀ w ∈ u_ws RX5 TX5 10, w ∈ wtX5_hint := fun w h => List.mem_cons_of_mem _ (inlX5 w h)
  have q2 := hts (.fieldLink RX5 182 "Patiencery$Table" "listed" "I") (List.mem_cons_of_mem _ mw_238)
  have inX4 : ∀ w ∈ u_ws RX4 TX4 7, w ∈ wtX5_hint := fun w h => List.mem_cons_of_mem _ (inlX4 w h)
  have q4 := hts (.fieldLink RX5 38 "Patiencery" "searcher" "LPatiencery$Searcher;") (List.mem_cons_of_mem _ mw_26)
  have q5 := hts (.fieldLink RX5 224 "Patiencery$Searcher" "table" "LPatiencery$Table;") (List.mem_cons_of_mem _ mw_407)
  have inX2 : ∀ w ∈ u_ws RX2 TX2 7, w ∈ wtX5_hint := fun w h => List.mem_cons_of_mem _ (inlX2 w h)
  have S40 : ∀ (K40 : (Nat → Nat → Int32) → (Nat → Nat → Int32) → (Nat → Nat → Int32) → (Nat → Nat → Int32) → (Nat → Nat → Int64) → Int32 → Int32 → Option (Int32 × (Nat → Nat → Int32) × (Nat → Nat → Int32) × (Nat → Nat → Int32) × (Nat → Nat → Int32) × (Nat → Nat → Int64))) (_ : ∀ (Q_0_searcher : Nat → Nat → Int32) (T_0_searcher_table : Nat → Nat → Int32) (T_0_now : Nat → Nat → Int32) (T_0_searcher_origin : Nat → Nat → Int32) (S_0_searcher_shelf : Nat → Nat → Int64) (v1 : Int32) (v2 : Int32) (H : Heap) (locs : List Loc) (ls : Array Slot), HS D A H0 [(h_0, oX5 g_0_nextRules h_0_rules h_0_now g_0_past h_0_searcher g_0_dealt g_0_tried P_0), (h_0_searcher, oX2 h_0_searcher_table h_0_searcher_origin h_0_searcher_shelf h_0_searcher_steps h_0_searcher_newest h_0_searcher_older Q_0_searcher), (h_0_searcher_steps, eI cI 401 (Q_0_searcher 1)), (h_0_searcher_newest, eI cI 256 (Q_0_searcher 2)), (h_0_searcher_older, eI cI 401 (Q_0_searcher 3)), (h_0_searcher_table, oX4 h_0_rules h_0_searcher_table_lies h_0_searcher_table_tops h_0_searcher_table_list T_0_searcher_table), (h_0_searcher_table_lies, eI cI 16 (T_0_searcher_table 1)), (h_0_searcher_table_tops, eI cI 10 (T_0_searcher_table 2)), (h_0_searcher_table_list, eI cI 160 (T_0_searcher_table 3)), (h_0_now, oX4 h_0_rules h_0_now_lies h_0_now_tops h_0_now_list T_0_now), (h_0_now_lies, eI cI 16 (T_0_now 1)), (h_0_now_tops, eI cI 10 (T_0_now 2)), (h_0_now_list, eI cI 160 (T_0_now 3)), (h_0_searcher_origin, oX4 h_0_rules h_0_searcher_origin_lies h_0_searcher_origin_tops h_0_searcher_origin_list T_0_searcher_origin), (h_0_searcher_origin_lies, eI cI 16 (T_0_searcher_origin 1)), (h_0_searcher_origin_tops, eI cI 10 (T_0_searcher_origin 2)), (h_0_searcher_origin_list, eI cI 160 (T_0_searcher_origin 3)), (h_0_searcher_shelf, oX3 h_0_searcher_shelf_lows h_0_searcher_shelf_highs h_0_searcher_shelf_places), (h_0_searcher_shelf_lows, eJ cJ 401 (S_0_searcher_shelf 0)), (h_0_searcher_shelf_highs, eJ cJ 401 (S_0_searcher_shelf 1)), (h_0_searcher_shelf_places, eJ cJ 401 (S_0_searcher_shelf 2)), (h_0_rules, oX1 r_0_rules)] H locs → lv_has ls 4 [(0, .ref h_0), (1, .int v1), (2, .int v2)] → K40 Q_0_searcher T_0_searcher_table T_0_now T_0_searcher_origin S_0_searcher_shelf v1 v2 = some (rv, r_Q_0_searcher, r_T_0_searcher_table, r_T_0_now, r_T_0_searcher_origin, r_S_0_searcher_shelf) → W p l e ({ frames := 6, cells := 0, slots := 0, locals := 140 } : Room) s m args below meth c H locs 0 0 Q (F0 m 40 ls [])) (Q_0_searcher : Nat → Nat → Int32) (T_0_searcher_table : Nat → Nat → Int32) (T_0_now : Nat → Nat → Int32) (T_0_searcher_origin : Nat → Nat → Int32) (S_0_searcher_shelf : Nat → Nat → Int64) (v1 : Int32) (v2 : Int32) (H : Heap) (locs : List Loc) (ls : Array Slot), HS D A H0 [(h_0, oX5 g_0_nextRules h_0_rules h_0_now g_0_past h_0_searcher g_0_dealt g_0_tried P_0), (h_0_searcher, oX2 h_0_searcher_table h_0_searcher_origin h_0_searcher_shelf h_0_searcher_steps h_0_searcher_newest h_0_searcher_older Q_0_searcher), (h_0_searcher_steps, eI cI 401 (Q_0_searcher 1)), (h_0_searcher_newest, eI cI 256 (Q_0_searcher 2)), (h_0_searcher_older, eI cI 401 (Q_0_searcher 3)), (h_0_searcher_table, oX4 h_0_rules h_0_searcher_table_lies h_0_searcher_table_tops h_0_searcher_table_list T_0_searcher_table), (h_0_searcher_table_lies, eI cI 16 (T_0_searcher_table 1)), (h_0_searcher_table_tops, eI cI 10 (T_0_searcher_table 2)), (h_0_searcher_table_list, eI cI 160 (T_0_searcher_table 3)), (h_0_now, oX4 h_0_rules h_0_now_lies h_0_now_tops h_0_now_list T_0_now), (h_0_now_lies, eI cI 16 (T_0_now 1)), (h_0_now_tops, eI cI 10 (T_0_now 2)), (h_0_now_list, eI cI 160 (T_0_now 3)), (h_0_searcher_origin, oX4 h_0_rules h_0_searcher_origin_lies h_0_searcher_origin_tops h_0_searcher_origin_list T_0_searcher_origin), (h_0_searcher_origin_lies, eI cI 16 (T_0_searcher_origin 1)), (h_0_searcher_origin_tops, eI cI 10 (T_0_searcher_origin 2)), (h_0_searcher_origin_list, eI cI 160 (T_0_searcher_origin 3)), (h_0_searcher_shelf, oX3 h_0_searcher_shelf_lows h_0_searcher_shelf_highs h_0_searcher_shelf_places), (h_0_searcher_shelf_lows, eJ cJ 401 (S_0_searcher_shelf 0)), (h_0_searcher_shelf_highs, eJ cJ 401 (S_0_searcher_shelf 1)), (h_0_searcher_shelf_places, eJ cJ 401 (S_0_searcher_shelf 2)), (h_0_rules, oX1 r_0_rules)] H locs → lv_has ls 4 [(0, .ref h_0), (1, .int v1), (2, .int v2)] → F_X5_hint_s40 P_0 r_0_rules K40 Q_0_searcher T_0_searcher_table T_0_now T_0_searcher_origin S_0_searcher_shelf v1 v2 = some (rv, r_Q_0_searcher, r_T_0_searcher_table, r_T_0_now, r_T_0_searcher_origin, r_S_0_searcher_shelf) → W p l e ({ frames := 6, cells := 0, slots := 0, locals := 140 } : Room) s m args below meth c H locs 0 0 Q (F0 m 40 ls []) := by
    intro K40 hK40 Q_0_searcher T_0_searcher_table T_0_now T_0_searcher_origin S_0_searcher_shelf v1 v2 H locs ls hS hl hF
    unfold F_X5_hint_s40 at hF
    refine lv_iload_n hx hb dX5_hint_40 rfl (lv_at hl 2 rfl) ?_
    refine lv_aload_n hx hb dX5_hint_41 rfl (lv_at hl 0 rfl) ?_
    refine r_get hx hb hts inX5 hown hK hS 0 2 rfl rfl (by decide) q0 rfl dX5_hint_42 ?_
    refine r_get hx hb hts inX4 hown hK hS 9 4 rfl rfl (by decide) q2 rfl dX5_hint_45 ?_
    refine lv_icmp_ge (tgt := 108) hx hb dX5_hint_48 (by decide) (fun c_1 => ?_) (fun c_1 => ?_)
    · replace hF := ifp hF c_1
      refine lv_iconst (v := (-1)) hx hb dX5_hint_108 (by decide) ?_
      have e9_0 := Option.some.inj hF
      obtain ⟨f9_0, e9_1⟩ := Prod.mk.inj e9_0
      obtain ⟨f9_1, e9_2⟩ := Prod.mk.inj e9_1
      obtain ⟨f9_2, e9_3⟩ := Prod.mk.inj e9_2
      obtain ⟨f9_3, e9_4⟩ := Prod.mk.inj e9_3
      obtain ⟨f9_4, e9_5⟩ := Prod.mk.inj e9_4
      subst f9_0
      subst f9_1
      subst f9_2
      subst f9_3
      subst f9_4
      subst e9_5
      exact kret _ _ _ _ hS dX5_hint_109
    · replace hF := ifn hF c_1
      refine lv_aload_n hx hb dX5_hint_51 rfl (lv_at hl 0 rfl) ?_
      refine r_get hx hb hts inX5 hown hK hS 0 2 rfl rfl (by decide) q0 rfl dX5_hint_52 ?_
      refine lv_iload_n hx hb dX5_hint_55 rfl (lv_at hl 2 rfl) ?_
      replace hF := cal1_e hF
      obtain ⟨x2, hc3, hF⟩ := hF
      refine kV_i (As := [.int v2]) (rest := []) (wr := [(h_0, oX5 g_0_nextRules h_0_rules h_0_now g_0_past h_0_searcher g_0_dealt g_0_tried P_0), (h_0_searcher, oX2 h_0_searcher_table h_0_searcher_origin h_0_searcher_shelf h_0_searcher_steps h_0_searcher_newest h_0_searcher_older Q_0_searcher), (h_0_searcher_steps, eI cI 401 (Q_0_searcher 1)), (h_0_searcher_newest, eI cI 256 (Q_0_searcher 2)), (h_0_searcher_older, eI cI 401 (Q_0_searcher 3)), (h_0_searcher_table, oX4 h_0_rules h_0_searcher_table_lies h_0_searcher_table_tops h_0_searcher_table_list T_0_searcher_table), (h_0_searcher_table_lies, eI cI 16 (T_0_searcher_table 1)), (h_0_searcher_table_tops, eI cI 10 (T_0_searcher_table 2)), (h_0_searcher_table_list, eI cI 160 (T_0_searcher_table 3)), (h_0_searcher_origin, oX4 h_0_rules h_0_searcher_origin_lies h_0_searcher_origin_tops h_0_searcher_origin_list T_0_searcher_origin), (h_0_searcher_origin_lies, eI cI 16 (T_0_searcher_origin 1)), (h_0_searcher_origin_tops, eI cI 10 (T_0_searcher_origin 2)), (h_0_searcher_origin_list, eI cI 160 (T_0_searcher_origin 3)), (h_0_searcher_shelf, oX3 h_0_searcher_shelf_lows h_0_searcher_shelf_highs h_0_searcher_shelf_places), (h_0_searcher_shelf_lows, eJ cJ 401 (S_0_searcher_shelf 0)), (h_0_searcher_shelf_highs, eJ cJ 401 (S_0_searcher_shelf 1)), (h_0_searcher_shelf_places, eJ cJ 401 (S_0_searcher_shelf 2)), (h_0_rules, oX1 r_0_rules)]) (w2 := [(h_0, oX5 g_0_nextRules h_0_rules h_0_now g_0_past h_0_searcher g_0_dealt g_0_tried P_0), (h_0_searcher, oX2 h_0_searcher_table h_0_searcher_origin h_0_searcher_shelf h_0_searcher_steps h_0_searcher_newest h_0_searcher_older Q_0_searcher), (h_0_searcher_steps, eI cI 401 (Q_0_searcher 1)), (h_0_searcher_newest, eI cI 256 (Q_0_searcher 2)), (h_0_searcher_older, eI cI 401 (Q_0_searcher 3)), (h_0_searcher_table, oX4 h_0_rules h_0_searcher_table_lies h_0_searcher_table_tops h_0_searcher_table_list T_0_searcher_table), (h_0_searcher_table_lies, eI cI 16 (T_0_searcher_table 1)), (h_0_searcher_table_tops, eI cI 10 (T_0_searcher_table 2)), (h_0_searcher_table_list, eI cI 160 (T_0_searcher_table 3)), (h_0_searcher_origin, oX4 h_0_rules h_0_searcher_origin_lies h_0_searcher_origin_tops h_0_searcher_origin_list T_0_searcher_origin), (h_0_searcher_origin_lies, eI cI 16 (T_0_searcher_origin 1)), (h_0_searcher_origin_tops, eI cI 10 (T_0_searcher_origin 2)), (h_0_searcher_origin_list, eI cI 160 (T_0_searcher_origin 3)), (h_0_searcher_shelf, oX3 h_0_searcher_shelf_lows h_0_searcher_shelf_highs h_0_searcher_shelf_places), (h_0_searcher_shelf_lows, eJ cJ 401 (S_0_searcher_shelf 0)), (h_0_searcher_shelf_highs, eJ cJ 401 (S_0_searcher_shelf 1)), (h_0_searcher_shelf_places, eJ cJ 401 (S_0_searcher_shelf 2)), (h_0_rules, oX1 r_0_rules), (h_0_now, oX4 h_0_rules h_0_now_lies h_0_now_tops h_0_now_list T_0_now), (h_0_now_lies, eI cI 16 (T_0_now 1)), (h_0_now_tops, eI cI 10 (T_0_now 2)), (h_0_now_list, eI cI 160 (T_0_now 3))]) hCF hK (c_X4_listedAt l D cI cJ h_0_now h_0_now_lies h_0_now_tops h_0_now_list h_0_rules T_0_now v2 x2 hc3) (cwV 1 hts (TBL_V mw_311 mw_312 mw_313 mw_17 mw_314) rfl rfl rfl pmX4_listedAt ⟨Nat.le_of_ble_eq_true rfl, Nat.le_of_ble_eq_true rfl⟩) hS hA [9, 10, 11, 12] [0, 1, 2, 3, 4, 5, 6, 7, 8, 13, 14, 15, 16, 17, 18, 19, 20, 21] rfl rfl rfl rfl (by decide) rfl rfl rfl hl.1 rfl (Nat.le_of_ble_eq_true rfl) ⟨Nat.zero_le _, Nat.zero_le _⟩ dX5_hint_56 rfl (fun H locs hS => ?_)
      refine lv_istore_n (lv' := [(3, .int x2), (0, .ref h_0), (1, .int v1), (2, .int v2)]) hx hb dX5_hint_59 rfl hl (by decide) rfl (fun ls hl => ?_)
      refine lv_aload_n hx hb dX5_hint_60 rfl (lv_at hl 1 rfl) ?_
      refine r_get hx hb hts inX5 hown hK hS 0 4 rfl rfl (by decide) q4 rfl dX5_hint_61 ?_
      refine r_get hx hb hts inX2 hown hK hS 1 0 rfl rfl (by decide) q5 rfl dX5_hint_64 ?_
      refine lv_aload_n hx hb dX5_hint_67 rfl (lv_at hl 1 rfl) ?_
      refine r_get hx hb hts inX5 hown hK hS 0 2 rfl rfl (by decide) q0 rfl dX5_hint_68 ?_
      replace hF := cal1_e hF
      obtain ⟨T_0_searcher_tableu4, hc5, hF⟩ := hF
      refine kV_v (As := [.ref h_0_now]) (rest := []) (wr := [(h_0, oX5 g_0_nextRules h_0_rules h_0_now g_0_past h_0_searcher g_0_dealt g_0_tried P_0), (h_0_searcher, oX2 h_0_searcher_table h_0_searcher_origin h_0_searcher_shelf h_0_searcher_steps h_0_searcher_newest h_0_searcher_older Q_0_searcher), (h_0_searcher_steps, eI cI 401 (Q_0_searcher 1)), (h_0_searcher_newest, eI cI 256 (Q_0_searcher 2)), (h_0_searcher_older, eI cI 401 (Q_0_searcher 3)), (h_0_searcher_origin, oX4 h_0_rules h_0_searcher_origin_lies h_0_searcher_origin_tops h_0_searcher_origin_list T_0_searcher_origin), (h_0_searcher_origin_lies, eI cI 16 (T_0_searcher_origin 1)), (h_0_searcher_origin_tops, eI cI 10 (T_0_searcher_origin 2)), (h_0_searcher_origin_list, eI cI 160 (T_0_searcher_origin 3)), (h_0_searcher_shelf, oX3 h_0_searcher_shelf_lows h_0_searcher_shelf_highs h_0_searcher_shelf_places), (h_0_searcher_shelf_lows, eJ cJ 401 (S_0_searcher_shelf 0)), (h_0_searcher_shelf_highs, eJ cJ 401 (S_0_searcher_shelf 1)), (h_0_searcher_shelf_places, eJ cJ 401 (S_0_searcher_shelf 2)), (h_0_rules, oX1 r_0_rules)]) (w2 := [(h_0, oX5 g_0_nextRules h_0_rules h_0_now g_0_past h_0_searcher g_0_dealt g_0_tried P_0), (h_0_searcher, oX2 h_0_searcher_table h_0_searcher_origin h_0_searcher_shelf h_0_searcher_steps h_0_searcher_newest h_0_searcher_older Q_0_searcher), (h_0_searcher_steps, eI cI 401 (Q_0_searcher 1)), (h_0_searcher_newest, eI cI 256 (Q_0_searcher 2)), (h_0_searcher_older, eI cI 401 (Q_0_searcher 3)), (h_0_searcher_origin, oX4 h_0_rules h_0_searcher_origin_lies h_0_searcher_origin_tops h_0_searcher_origin_list T_0_searcher_origin), (h_0_searcher_origin_lies, eI cI 16 (T_0_searcher_origin 1)), (h_0_searcher_origin_tops, eI cI 10 (T_0_searcher_origin 2)), (h_0_searcher_origin_list, eI cI 160 (T_0_searcher_origin 3)), (h_0_searcher_shelf, oX3 h_0_searcher_shelf_lows h_0_searcher_shelf_highs h_0_searcher_shelf_places), (h_0_searcher_shelf_lows, eJ cJ 401 (S_0_searcher_shelf 0)), (h_0_searcher_shelf_highs, eJ cJ 401 (S_0_searcher_shelf 1)), (h_0_searcher_shelf_places, eJ cJ 401 (S_0_searcher_shelf 2)), (h_0_rules, oX1 r_0_rules), (h_0_searcher_table, oX4 h_0_rules h_0_searcher_table_lies h_0_searcher_table_tops h_0_searcher_table_list T_0_searcher_tableu4), (h_0_searcher_table_lies, eI cI 16 (T_0_searcher_tableu4 1)), (h_0_searcher_table_tops, eI cI 10 (T_0_searcher_tableu4 2)), (h_0_searcher_table_list, eI cI 160 (T_0_searcher_tableu4 3)), (h_0_now, oX4 h_0_rules h_0_now_lies h_0_now_tops h_0_now_list T_0_now), (h_0_now_lies, eI cI 16 (T_0_now 1)), (h_0_now_tops, eI cI 10 (T_0_now 2)), (h_0_now_list, eI cI 160 (T_0_now 3))]) hCF hK (c_X4_copyFrom l D cI cJ h_0_searcher_table h_0_searcher_table_lies h_0_searcher_table_tops h_0_searcher_table_list h_0_now h_0_now_lies h_0_now_tops h_0_now_list h_0_rules h_0_rules T_0_now T_0_searcher_table T_0_searcher_tableu4 hc5) (cwV 1 hts (TBL_V mw_408 mw_409 mw_410 mw_17 mw_411) rfl rfl rfl pmX4_copyFrom ⟨Nat.le_of_ble_eq_true rfl, Nat.le_of_ble_eq_true rfl⟩) hS hA [5, 6, 7, 8, 18, 19, 20, 21] [0, 1, 2, 3, 4, 9, 10, 11, 12, 13, 14, 15, 16, 17] rfl rfl rfl rfl (by decide) rfl rfl rfl hl.1 rfl (Nat.le_of_ble_eq_true rfl) ⟨Nat.zero_le _, Nat.zero_le _⟩ dX5_hint_71 rfl (fun H locs hS => ?_)
      refine lv_aload_n hx hb dX5_hint_74 rfl (lv_at hl 1 rfl) ?_
      refine r_get hx hb hts inX5 hown hK hS 0 4 rfl rfl (by decide) q4 rfl dX5_hint_75 ?_
      refine r_get hx hb hts inX2 hown hK hS 1 0 rfl rfl (by decide) q5 rfl dX5_hint_78 ?_
      refine lv_iload_n hx hb dX5_hint_81 rfl (lv_at hl 0 rfl) ?_
      replace hF := cal1_e hF
      obtain ⟨T_0_searcher_tableu6, hc7, hF⟩ := hF
      refine kV_v (As := [.int x2]) (rest := []) (wr := [(h_0, oX5 g_0_nextRules h_0_rules h_0_now g_0_past h_0_searcher g_0_dealt g_0_tried P_0), (h_0_searcher, oX2 h_0_searcher_table h_0_searcher_origin h_0_searcher_shelf h_0_searcher_steps h_0_searcher_newest h_0_searcher_older Q_0_searcher), (h_0_searcher_steps, eI cI 401 (Q_0_searcher 1)), (h_0_searcher_newest, eI cI 256 (Q_0_searcher 2)), (h_0_searcher_older, eI cI 401 (Q_0_searcher 3)), (h_0_searcher_origin, oX4 h_0_rules h_0_searcher_origin_lies h_0_searcher_origin_tops h_0_searcher_origin_list T_0_searcher_origin), (h_0_searcher_origin_lies, eI cI 16 (T_0_searcher_origin 1)), (h_0_searcher_origin_tops, eI cI 10 (T_0_searcher_origin 2)), (h_0_searcher_origin_list, eI cI 160 (T_0_searcher_origin 3)), (h_0_searcher_shelf, oX3 h_0_searcher_shelf_lows h_0_searcher_shelf_highs h_0_searcher_shelf_places), (h_0_searcher_shelf_lows, eJ cJ 401 (S_0_searcher_shelf 0)), (h_0_searcher_shelf_highs, eJ cJ 401 (S_0_searcher_shelf 1)), (h_0_searcher_shelf_places, eJ cJ 401 (S_0_searcher_shelf 2)), (h_0_rules, oX1 r_0_rules), (h_0_now, oX4 h_0_rules h_0_now_lies h_0_now_tops h_0_now_list T_0_now), (h_0_now_lies, eI cI 16 (T_0_now 1)), (h_0_now_tops, eI cI 10 (T_0_now 2)), (h_0_now_list, eI cI 160 (T_0_now 3))]) (w2 := [(h_0, oX5 g_0_nextRules h_0_rules h_0_now g_0_past h_0_searcher g_0_dealt g_0_tried P_0), (h_0_searcher, oX2 h_0_searcher_table h_0_searcher_origin h_0_searcher_shelf h_0_searcher_steps h_0_searcher_newest h_0_searcher_older Q_0_searcher), (h_0_searcher_steps, eI cI 401 (Q_0_searcher 1)), (h_0_searcher_newest, eI cI 256 (Q_0_searcher 2)), (h_0_searcher_older, eI cI 401 (Q_0_searcher 3)), (h_0_searcher_origin, oX4 h_0_rules h_0_searcher_origin_lies h_0_searcher_origin_tops h_0_searcher_origin_list T_0_searcher_origin), (h_0_searcher_origin_lies, eI cI 16 (T_0_searcher_origin 1)), (h_0_searcher_origin_tops, eI cI 10 (T_0_searcher_origin 2)), (h_0_searcher_origin_list, eI cI 160 (T_0_searcher_origin 3)), (h_0_searcher_shelf, oX3 h_0_searcher_shelf_lows h_0_searcher_shelf_highs h_0_searcher_shelf_places), (h_0_searcher_shelf_lows, eJ cJ 401 (S_0_searcher_shelf 0)), (h_0_searcher_shelf_highs, eJ cJ 401 (S_0_searcher_shelf 1)), (h_0_searcher_shelf_places, eJ cJ 401 (S_0_searcher_shelf 2)), (h_0_rules, oX1 r_0_rules), (h_0_now, oX4 h_0_rules h_0_now_lies h_0_now_tops h_0_now_list T_0_now), (h_0_now_lies, eI cI 16 (T_0_now 1)), (h_0_now_tops, eI cI 10 (T_0_now 2)), (h_0_now_list, eI cI 160 (T_0_now 3)), (h_0_searcher_table, oX4 h_0_rules h_0_searcher_table_lies h_0_searcher_table_tops h_0_searcher_table_list T_0_searcher_tableu6), (h_0_searcher_table_lies, eI cI 16 (T_0_searcher_tableu6 1)), (h_0_searcher_table_tops, eI cI 10 (T_0_searcher_tableu6 2)), (h_0_searcher_table_list, eI cI 160 (T_0_searcher_tableu6 3))]) hCF hK (c_X4_play l D cI cJ h_0_searcher_table h_0_searcher_table_lies h_0_searcher_table_tops h_0_searcher_table_list h_0_rules T_0_searcher_tableu4 x2 T_0_searcher_tableu6 hc7) (cwV 1 hts (TBL_V mw_351 mw_352 mw_353 mw_17 mw_354) rfl rfl rfl pmX4_play ⟨Nat.le_of_ble_eq_true rfl, Nat.le_of_ble_eq_true rfl⟩) hS hA [14, 15, 16, 17] [0, 1, 2, 3, 4, 5, 6, 7, 8, 9, 10, 11, 12, 13, 18, 19, 20, 21] rfl rfl rfl rfl (by decide) rfl rfl rfl hl.1 rfl (Nat.le_of_ble_eq_true rfl) ⟨Nat.zero_le _, Nat.zero_le _⟩ dX5_hint_82 rfl (fun H locs hS => ?_)
      refine lv_aload_n hx hb dX5_hint_85 rfl (lv_at hl 1 rfl) ?_
      refine r_get hx hb hts inX5 hown hK hS 0 4 rfl rfl (by decide) q4 rfl dX5_hint_86 ?_
      refine lv_bipush (v := (nI 100)) hx hb dX5_hint_89 (by decide) ?_
      replace hF := cal5_e hF
      obtain ⟨x8, Q_0_searcheru9, T_0_searcher_originu10, T_0_searcher_tableu11, S_0_searcher_shelfu12, hc13, hF⟩ := hF
      refine kV_i (As := [.int (nI 100)]) (rest := []) (wr := [(h_0, oX5 g_0_nextRules h_0_rules h_0_now g_0_past h_0_searcher g_0_dealt g_0_tried P_0), (h_0_now, oX4 h_0_rules h_0_now_lies h_0_now_tops h_0_now_list T_0_now), (h_0_now_lies, eI cI 16 (T_0_now 1)), (h_0_now_tops, eI cI 10 (T_0_now 2)), (h_0_now_list, eI cI 160 (T_0_now 3))]) (w2 := [(h_0, oX5 g_0_nextRules h_0_rules h_0_now g_0_past h_0_searcher g_0_dealt g_0_tried P_0), (h_0_now, oX4 h_0_rules h_0_now_lies h_0_now_tops h_0_now_list T_0_now), (h_0_now_lies, eI cI 16 (T_0_now 1)), (h_0_now_tops, eI cI 10 (T_0_now 2)), (h_0_now_list, eI cI 160 (T_0_now 3)), (h_0_searcher, oX2 h_0_searcher_table h_0_searcher_origin h_0_searcher_shelf h_0_searcher_steps h_0_searcher_newest h_0_searcher_older Q_0_searcheru9), (h_0_searcher_steps, eI cI 401 (Q_0_searcheru9 1)), (h_0_searcher_newest, eI cI 256 (Q_0_searcheru9 2)), (h_0_searcher_older, eI cI 401 (Q_0_searcheru9 3)), (h_0_searcher_origin, oX4 h_0_rules h_0_searcher_origin_lies h_0_searcher_origin_tops h_0_searcher_origin_list T_0_searcher_originu10), (h_0_searcher_origin_lies, eI cI 16 (T_0_searcher_originu10 1)), (h_0_searcher_origin_tops, eI cI 10 (T_0_searcher_originu10 2)), (h_0_searcher_origin_list, eI cI 160 (T_0_searcher_originu10 3)), (h_0_searcher_table, oX4 h_0_rules h_0_searcher_table_lies h_0_searcher_table_tops h_0_searcher_table_list T_0_searcher_tableu11), (h_0_searcher_table_lies, eI cI 16 (T_0_searcher_tableu11 1)), (h_0_searcher_table_tops, eI cI 10 (T_0_searcher_tableu11 2)), (h_0_searcher_table_list, eI cI 160 (T_0_searcher_tableu11 3)), (h_0_searcher_shelf, oX3 h_0_searcher_shelf_lows h_0_searcher_shelf_highs h_0_searcher_shelf_places), (h_0_searcher_shelf_lows, eJ cJ 401 (S_0_searcher_shelfu12 0)), (h_0_searcher_shelf_highs, eJ cJ 401 (S_0_searcher_shelfu12 1)), (h_0_searcher_shelf_places, eJ cJ 401 (S_0_searcher_shelfu12 2)), (h_0_rules, oX1 r_0_rules)]) hCF hK (c_X2_run l D cI cJ h_0_searcher h_0_searcher_steps h_0_searcher_newest h_0_searcher_older h_0_searcher_origin h_0_searcher_origin_lies h_0_searcher_origin_tops h_0_searcher_origin_list h_0_searcher_table h_0_searcher_table_lies h_0_searcher_table_tops h_0_searcher_table_list h_0_searcher_shelf h_0_searcher_shelf_lows h_0_searcher_shelf_highs h_0_searcher_shelf_places h_0_rules h_0_rules r_0_rules Q_0_searcher T_0_searcher_origin T_0_searcher_tableu6 S_0_searcher_shelf (nI 100) x8 Q_0_searcheru9 T_0_searcher_originu10 T_0_searcher_tableu11 S_0_searcher_shelfu12 hc13) (cwV 1 hts (TBL_V mw_416 mw_417 mw_418 mw_25 mw_419) rfl rfl rfl pmX2_run ⟨Nat.le_of_ble_eq_true rfl, Nat.le_of_ble_eq_true rfl⟩) hS hA [1, 2, 3, 4, 5, 6, 7, 8, 18, 19, 20, 21, 9, 10, 11, 12, 13] [0, 14, 15, 16, 17] rfl rfl rfl rfl (by decide) rfl rfl rfl hl.1 rfl (Nat.le_of_ble_eq_true rfl) ⟨Nat.zero_le _, Nat.zero_le _⟩ dX5_hint_91 rfl (fun H locs hS => ?_)
      refine lv_iload_n hx hb dX5_hint_94 rfl (lv_at hl 2 rfl) ?_
      refine lv_iconst (v := (nI 1)) hx hb dX5_hint_95 (by decide) ?_
      refine lv_isub hx hb dX5_hint_96 ?_
      refine lv_icmp_ne (tgt := 102) hx hb dX5_hint_97 (by decide) (fun c_14 => ?_) (fun c_14 => ?_)
      · replace hF := ifn hF c_14
        refine lv_iinc (v := v2 + (nI 1)) (lv' := [(2, .int (v2 + (nI 1))), (3, .int x2), (0, .ref h_0), (1, .int v1)]) hx hb dX5_hint_102 hl (k := 3) rfl rfl (by decide) rfl (fun ls hl => ?_)
        refine lv_goto (tgt := 40) hx hb dX5_hint_105 (by decide) ?_
        exact hK40 Q_0_searcheru9 T_0_searcher_tableu11 T_0_now T_0_searcher_originu10 S_0_searcher_shelfu12 v1 (v2 + (nI 1)) _ _ _ (hS.sub [0, 5, 6, 7, 8, 13, 14, 15, 16, 1, 2, 3, 4, 9, 10, 11, 12, 17, 18, 19, 20, 21] rfl rfl) (lv_sub hl [2, 3, 0] rfl) hF
      · replace hF := ifp hF c_14
        refine lv_iload_n hx hb dX5_hint_100 rfl (lv_at hl 0 rfl) ?_
        have e9_0 := Option.some.inj hF
        obtain ⟨f9_0, e9_1⟩ := Prod.mk.inj e9_0
        obtain ⟨f9_1, e9_2⟩ := Prod.mk.inj e9_1
        obtain ⟨f9_2, e9_3⟩ := Prod.mk.inj e9_2
        obtain ⟨f9_3, e9_4⟩ := Prod.mk.inj e9_3
        obtain ⟨f9_4, e9_5⟩ := Prod.mk.inj e9_4
        subst f9_0
        subst f9_1
        subst f9_2
        subst f9_3
        subst f9_4
        subst e9_5
        exact kret _ _ _ _ (hS.sub [0, 5, 6, 7, 8, 13, 14, 15, 16, 1, 2, 3, 4, 9, 10, 11, 12, 17, 18, 19, 20, 21] rfl rfl) dX5_hint_101
  have L40 : ∀  (n : Nat) (Q_0_searcher : Nat → Nat → Int32) (T_0_searcher_table : Nat → Nat → Int32) (T_0_now : Nat → Nat → Int32) (T_0_searcher_origin : Nat → Nat → Int32) (S_0_searcher_shelf : Nat → Nat → Int64) (v1 : Int32) (v2 : Int32) (H : Heap) (locs : List Loc) (ls : Array Slot), HS D A H0 [(h_0, oX5 g_0_nextRules h_0_rules h_0_now g_0_past h_0_searcher g_0_dealt g_0_tried P_0), (h_0_searcher, oX2 h_0_searcher_table h_0_searcher_origin h_0_searcher_shelf h_0_searcher_steps h_0_searcher_newest h_0_searcher_older Q_0_searcher), (h_0_searcher_steps, eI cI 401 (Q_0_searcher 1)), (h_0_searcher_newest, eI cI 256 (Q_0_searcher 2)), (h_0_searcher_older, eI cI 401 (Q_0_searcher 3)), (h_0_searcher_table, oX4 h_0_rules h_0_searcher_table_lies h_0_searcher_table_tops h_0_searcher_table_list T_0_searcher_table), (h_0_searcher_table_lies, eI cI 16 (T_0_searcher_table 1)), (h_0_searcher_table_tops, eI cI 10 (T_0_searcher_table 2)), (h_0_searcher_table_list, eI cI 160 (T_0_searcher_table 3)), (h_0_now, oX4 h_0_rules h_0_now_lies h_0_now_tops h_0_now_list T_0_now), (h_0_now_lies, eI cI 16 (T_0_now 1)), (h_0_now_tops, eI cI 10 (T_0_now 2)), (h_0_now_list, eI cI 160 (T_0_now 3)), (h_0_searcher_origin, oX4 h_0_rules h_0_searcher_origin_lies h_0_searcher_origin_tops h_0_searcher_origin_list T_0_searcher_origin), (h_0_searcher_origin_lies, eI cI 16 (T_0_searcher_origin 1)), (h_0_searcher_origin_tops, eI cI 10 (T_0_searcher_origin 2)), (h_0_searcher_origin_list, eI cI 160 (T_0_searcher_origin 3)), (h_0_searcher_shelf, oX3 h_0_searcher_shelf_lows h_0_searcher_shelf_highs h_0_searcher_shelf_places), (h_0_searcher_shelf_lows, eJ cJ 401 (S_0_searcher_shelf 0)), (h_0_searcher_shelf_highs, eJ cJ 401 (S_0_searcher_shelf 1)), (h_0_searcher_shelf_places, eJ cJ 401 (S_0_searcher_shelf 2)), (h_0_rules, oX1 r_0_rules)] H locs → lv_has ls 4 [(0, .ref h_0), (1, .int v1), (2, .int v2)] → F_X5_hint_L40 P_0 r_0_rules  n Q_0_searcher T_0_searcher_table T_0_now T_0_searcher_origin S_0_searcher_shelf v1 v2 = some (rv, r_Q_0_searcher, r_T_0_searcher_table, r_T_0_now, r_T_0_searcher_origin, r_S_0_searcher_shelf) → W p l e ({ frames := 6, cells := 0, slots := 0, locals := 140 } : Room) s m args below meth c H locs 0 0 Q (F0 m 40 ls []) := by
    intro  n
    induction n with
    | zero => intro Q_0_searcher T_0_searcher_table T_0_now T_0_searcher_origin S_0_searcher_shelf v1 v2 H locs ls hS hl hF; exact nomatch (show (none : Option (Int32 × (Nat → Nat → Int32) × (Nat → Nat → Int32) × (Nat → Nat → Int32) × (Nat → Nat → Int32) × (Nat → Nat → Int64))) = some _ from hF)
    | succ n ih => intro Q_0_searcher T_0_searcher_table T_0_now T_0_searcher_origin S_0_searcher_shelf v1 v2 H locs ls hS hl hF; exact S40  _ ih Q_0_searcher T_0_searcher_table T_0_now T_0_searcher_origin S_0_searcher_shelf v1 v2 H locs ls hS hl hF
  unfold F_X5_hint at hF
  refine lv_aload_n hx hb dX5_hint_0 rfl (lv_at hl 0 rfl) ?_
  refine r_get hx hb hts inX5 hown hK hS 0 4 rfl rfl (by decide) q4 rfl dX5_hint_1 ?_
  refine r_get hx hb hts inX2 hown hK hS 1 0 rfl rfl (by decide) q5 rfl dX5_hint_4 ?_
  refine lv_aload_n hx hb dX5_hint_7 rfl (lv_at hl 0 rfl) ?_
  refine r_get hx hb hts inX5 hown hK hS 0 2 rfl rfl (by decide) q0 rfl dX5_hint_8 ?_
  replace hF := cal1_e hF
  obtain ⟨T_0_searcher_tableu15, hc16, hF⟩ := hF
  refine kV_v (As := [.ref h_0_now]) (rest := []) (wr := [(h_0, oX5 g_0_nextRules h_0_rules h_0_now g_0_past h_0_searcher g_0_dealt g_0_tried P_0), (h_0_searcher, oX2 h_0_searcher_table h_0_searcher_origin h_0_searcher_shelf h_0_searcher_steps h_0_searcher_newest h_0_searcher_older Q_0_searcher), (h_0_searcher_steps, eI cI 401 (Q_0_searcher 1)), (h_0_searcher_newest, eI cI 256 (Q_0_searcher 2)), (h_0_searcher_older, eI cI 401 (Q_0_searcher 3)), (h_0_searcher_origin, oX4 g_0_searcher_origin_rules h_0_searcher_origin_lies h_0_searcher_origin_tops h_0_searcher_origin_list T_0_searcher_origin), (h_0_searcher_origin_lies, eI cI 16 (T_0_searcher_origin 1)), (h_0_searcher_origin_tops, eI cI 10 (T_0_searcher_origin 2)), (h_0_searcher_origin_list, eI cI 160 (T_0_searcher_origin 3)), (h_0_searcher_shelf, oX3 h_0_searcher_shelf_lows h_0_searcher_shelf_highs h_0_searcher_shelf_places), (h_0_searcher_shelf_lows, eJ cJ 401 (S_0_searcher_shelf 0)), (h_0_searcher_shelf_highs, eJ cJ 401 (S_0_searcher_shelf 1)), (h_0_searcher_shelf_places, eJ cJ 401 (S_0_searcher_shelf 2)), (h_0_rules, oX1 r_0_rules)]) (w2 := [(h_0, oX5 g_0_nextRules h_0_rules h_0_now g_0_past h_0_searcher g_0_dealt g_0_tried P_0), (h_0_searcher, oX2 h_0_searcher_table h_0_searcher_origin h_0_searcher_shelf h_0_searcher_steps h_0_searcher_newest h_0_searcher_older Q_0_searcher), (h_0_searcher_steps, eI cI 401 (Q_0_searcher 1)), (h_0_searcher_newest, eI cI 256 (Q_0_searcher 2)), (h_0_searcher_older, eI cI 401 (Q_0_searcher 3)), (h_0_searcher_origin, oX4 g_0_searcher_origin_rules h_0_searcher_origin_lies h_0_searcher_origin_tops h_0_searcher_origin_list T_0_searcher_origin), (h_0_searcher_origin_lies, eI cI 16 (T_0_searcher_origin 1)), (h_0_searcher_origin_tops, eI cI 10 (T_0_searcher_origin 2)), (h_0_searcher_origin_list, eI cI 160 (T_0_searcher_origin 3)), (h_0_searcher_shelf, oX3 h_0_searcher_shelf_lows h_0_searcher_shelf_highs h_0_searcher_shelf_places), (h_0_searcher_shelf_lows, eJ cJ 401 (S_0_searcher_shelf 0)), (h_0_searcher_shelf_highs, eJ cJ 401 (S_0_searcher_shelf 1)), (h_0_searcher_shelf_places, eJ cJ 401 (S_0_searcher_shelf 2)), (h_0_rules, oX1 r_0_rules), (h_0_searcher_table, oX4 h_0_rules h_0_searcher_table_lies h_0_searcher_table_tops h_0_searcher_table_list T_0_searcher_tableu15), (h_0_searcher_table_lies, eI cI 16 (T_0_searcher_tableu15 1)), (h_0_searcher_table_tops, eI cI 10 (T_0_searcher_tableu15 2)), (h_0_searcher_table_list, eI cI 160 (T_0_searcher_tableu15 3)), (h_0_now, oX4 h_0_rules h_0_now_lies h_0_now_tops h_0_now_list T_0_now), (h_0_now_lies, eI cI 16 (T_0_now 1)), (h_0_now_tops, eI cI 10 (T_0_now 2)), (h_0_now_list, eI cI 160 (T_0_now 3))]) hCF hK (c_X4_copyFrom l D cI cJ h_0_searcher_table h_0_searcher_table_lies h_0_searcher_table_tops h_0_searcher_table_list h_0_now h_0_now_lies h_0_now_tops h_0_now_list g_0_searcher_table_rules h_0_rules T_0_now T_0_searcher_table T_0_searcher_tableu15 hc16) (cwV 1 hts (TBL_V mw_408 mw_409 mw_410 mw_17 mw_411) rfl rfl rfl pmX4_copyFrom ⟨Nat.le_of_ble_eq_true rfl, Nat.le_of_ble_eq_true rfl⟩) hS hA [5, 6, 7, 8, 9, 10, 11, 12] [0, 1, 2, 3, 4, 13, 14, 15, 16, 17, 18, 19, 20, 21] rfl rfl rfl rfl (by decide) rfl rfl rfl hl.1 rfl (Nat.le_of_ble_eq_true rfl) ⟨Nat.zero_le _, Nat.zero_le _⟩ dX5_hint_11 rfl (fun H locs hS => ?_)
  refine lv_aload_n hx hb dX5_hint_14 rfl (lv_at hl 0 rfl) ?_
  refine r_get hx hb hts inX5 hown hK hS 0 4 rfl rfl (by decide) q4 rfl dX5_hint_15 ?_
  refine lv_bipush (v := (nI 100)) hx hb dX5_hint_18 (by decide) ?_
  replace hF := cal5_e hF
  obtain ⟨x17, Q_0_searcheru18, T_0_searcher_originu19, T_0_searcher_tableu20, S_0_searcher_shelfu21, hc22, hF⟩ := hF
  refine kV_i (As := [.int (nI 100)]) (rest := []) (wr := [(h_0, oX5 g_0_nextRules h_0_rules h_0_now g_0_past h_0_searcher g_0_dealt g_0_tried P_0), (h_0_now, oX4 h_0_rules h_0_now_lies h_0_now_tops h_0_now_list T_0_now), (h_0_now_lies, eI cI 16 (T_0_now 1)), (h_0_now_tops, eI cI 10 (T_0_now 2)), (h_0_now_list, eI cI 160 (T_0_now 3))]) (w2 := [(h_0, oX5 g_0_nextRules h_0_rules h_0_now g_0_past h_0_searcher g_0_dealt g_0_tried P_0), (h_0_now, oX4 h_0_rules h_0_now_lies h_0_now_tops h_0_now_list T_0_now), (h_0_now_lies, eI cI 16 (T_0_now 1)), (h_0_now_tops, eI cI 10 (T_0_now 2)), (h_0_now_list, eI cI 160 (T_0_now 3)), (h_0_searcher, oX2 h_0_searcher_table h_0_searcher_origin h_0_searcher_shelf h_0_searcher_steps h_0_searcher_newest h_0_searcher_older Q_0_searcheru18), (h_0_searcher_steps, eI cI 401 (Q_0_searcheru18 1)), (h_0_searcher_newest, eI cI 256 (Q_0_searcheru18 2)), (h_0_searcher_older, eI cI 401 (Q_0_searcheru18 3)), (h_0_searcher_origin, oX4 h_0_rules h_0_searcher_origin_lies h_0_searcher_origin_tops h_0_searcher_origin_list T_0_searcher_originu19), (h_0_searcher_origin_lies, eI cI 16 (T_0_searcher_originu19 1)), (h_0_searcher_origin_tops, eI cI 10 (T_0_searcher_originu19 2)), (h_0_searcher_origin_list, eI cI 160 (T_0_searcher_originu19 3)), (h_0_searcher_table, oX4 h_0_rules h_0_searcher_table_lies h_0_searcher_table_tops h_0_searcher_table_list T_0_searcher_tableu20), (h_0_searcher_table_lies, eI cI 16 (T_0_searcher_tableu20 1)), (h_0_searcher_table_tops, eI cI 10 (T_0_searcher_tableu20 2)), (h_0_searcher_table_list, eI cI 160 (T_0_searcher_tableu20 3)), (h_0_searcher_shelf, oX3 h_0_searcher_shelf_lows h_0_searcher_shelf_highs h_0_searcher_shelf_places), (h_0_searcher_shelf_lows, eJ cJ 401 (S_0_searcher_shelfu21 0)), (h_0_searcher_shelf_highs, eJ cJ 401 (S_0_searcher_shelfu21 1)), (h_0_searcher_shelf_places, eJ cJ 401 (S_0_searcher_shelfu21 2)), (h_0_rules, oX1 r_0_rules)]) hCF hK (c_X2_run l D cI cJ h_0_searcher h_0_searcher_steps h_0_searcher_newest h_0_searcher_older h_0_searcher_origin h_0_searcher_origin_lies h_0_searcher_origin_tops h_0_searcher_origin_list h_0_searcher_table h_0_searcher_table_lies h_0_searcher_table_tops h_0_searcher_table_list h_0_searcher_shelf h_0_searcher_shelf_lows h_0_searcher_shelf_highs h_0_searcher_shelf_places h_0_rules g_0_searcher_origin_rules r_0_rules Q_0_searcher T_0_searcher_origin T_0_searcher_tableu15 S_0_searcher_shelf (nI 100) x17 Q_0_searcheru18 T_0_searcher_originu19 T_0_searcher_tableu20 S_0_searcher_shelfu21 hc22) (cwV 1 hts (TBL_V mw_416 mw_417 mw_418 mw_25 mw_419) rfl rfl rfl pmX2_run ⟨Nat.le_of_ble_eq_true rfl, Nat.le_of_ble_eq_true rfl⟩) hS hA [1, 2, 3, 4, 5, 6, 7, 8, 14, 15, 16, 17, 9, 10, 11, 12, 13] [0, 18, 19, 20, 21] rfl rfl rfl rfl (by decide) rfl rfl rfl hl.1 rfl (Nat.le_of_ble_eq_true rfl) ⟨Nat.zero_le _, Nat.zero_le _⟩ dX5_hint_20 rfl (fun H locs hS => ?_)
  refine lv_istore_n (lv' := [(1, .int x17), (0, .ref h_0)]) hx hb dX5_hint_23 rfl hl (by decide) rfl (fun ls hl => ?_)
  refine lv_iload_n hx hb dX5_hint_24 rfl (lv_at hl 0 rfl) ?_
  refine lv_iconst (v := (nI 1)) hx hb dX5_hint_25 (by decide) ?_
  refine lv_icmp_ge (tgt := 31) hx hb dX5_hint_26 (by decide) (fun c_23 => ?_) (fun c_23 => ?_)
  · replace hF := ifp hF c_23
    refine lv_aload_n hx hb dX5_hint_31 rfl (lv_at hl 1 rfl) ?_
    refine r_get hx hb hts inX5 hown hK hS 0 2 rfl rfl (by decide) q0 rfl dX5_hint_32 ?_
    replace hF := cal1_e hF
    obtain ⟨T_0_nowu24, hc25, hF⟩ := hF
    refine kV_v (As := []) (rest := []) (wr := [(h_0, oX5 g_0_nextRules h_0_rules h_0_now g_0_past h_0_searcher g_0_dealt g_0_tried P_0), (h_0_searcher, oX2 h_0_searcher_table h_0_searcher_origin h_0_searcher_shelf h_0_searcher_steps h_0_searcher_newest h_0_searcher_older Q_0_searcheru18), (h_0_searcher_steps, eI cI 401 (Q_0_searcheru18 1)), (h_0_searcher_newest, eI cI 256 (Q_0_searcheru18 2)), (h_0_searcher_older, eI cI 401 (Q_0_searcheru18 3)), (h_0_searcher_origin, oX4 h_0_rules h_0_searcher_origin_lies h_0_searcher_origin_tops h_0_searcher_origin_list T_0_searcher_originu19), (h_0_searcher_origin_lies, eI cI 16 (T_0_searcher_originu19 1)), (h_0_searcher_origin_tops, eI cI 10 (T_0_searcher_originu19 2)), (h_0_searcher_origin_list, eI cI 160 (T_0_searcher_originu19 3)), (h_0_searcher_table, oX4 h_0_rules h_0_searcher_table_lies h_0_searcher_table_tops h_0_searcher_table_list T_0_searcher_tableu20), (h_0_searcher_table_lies, eI cI 16 (T_0_searcher_tableu20 1)), (h_0_searcher_table_tops, eI cI 10 (T_0_searcher_tableu20 2)), (h_0_searcher_table_list, eI cI 160 (T_0_searcher_tableu20 3)), (h_0_searcher_shelf, oX3 h_0_searcher_shelf_lows h_0_searcher_shelf_highs h_0_searcher_shelf_places), (h_0_searcher_shelf_lows, eJ cJ 401 (S_0_searcher_shelfu21 0)), (h_0_searcher_shelf_highs, eJ cJ 401 (S_0_searcher_shelfu21 1)), (h_0_searcher_shelf_places, eJ cJ 401 (S_0_searcher_shelfu21 2))]) (w2 := [(h_0, oX5 g_0_nextRules h_0_rules h_0_now g_0_past h_0_searcher g_0_dealt g_0_tried P_0), (h_0_searcher, oX2 h_0_searcher_table h_0_searcher_origin h_0_searcher_shelf h_0_searcher_steps h_0_searcher_newest h_0_searcher_older Q_0_searcheru18), (h_0_searcher_steps, eI cI 401 (Q_0_searcheru18 1)), (h_0_searcher_newest, eI cI 256 (Q_0_searcheru18 2)), (h_0_searcher_older, eI cI 401 (Q_0_searcheru18 3)), (h_0_searcher_origin, oX4 h_0_rules h_0_searcher_origin_lies h_0_searcher_origin_tops h_0_searcher_origin_list T_0_searcher_originu19), (h_0_searcher_origin_lies, eI cI 16 (T_0_searcher_originu19 1)), (h_0_searcher_origin_tops, eI cI 10 (T_0_searcher_originu19 2)), (h_0_searcher_origin_list, eI cI 160 (T_0_searcher_originu19 3)), (h_0_searcher_table, oX4 h_0_rules h_0_searcher_table_lies h_0_searcher_table_tops h_0_searcher_table_list T_0_searcher_tableu20), (h_0_searcher_table_lies, eI cI 16 (T_0_searcher_tableu20 1)), (h_0_searcher_table_tops, eI cI 10 (T_0_searcher_tableu20 2)), (h_0_searcher_table_list, eI cI 160 (T_0_searcher_tableu20 3)), (h_0_searcher_shelf, oX3 h_0_searcher_shelf_lows h_0_searcher_shelf_highs h_0_searcher_shelf_places), (h_0_searcher_shelf_lows, eJ cJ 401 (S_0_searcher_shelfu21 0)), (h_0_searcher_shelf_highs, eJ cJ 401 (S_0_searcher_shelfu21 1)), (h_0_searcher_shelf_places, eJ cJ 401 (S_0_searcher_shelfu21 2)), (h_0_now, oX4 h_0_rules h_0_now_lies h_0_now_tops h_0_now_list T_0_nowu24), (h_0_now_lies, eI cI 16 (T_0_nowu24 1)), (h_0_now_tops, eI cI 10 (T_0_nowu24 2)), (h_0_now_list, eI cI 160 (T_0_nowu24 3)), (h_0_rules, oX1 r_0_rules)]) hCF hK (c_X4_listMoves l D cI cJ h_0_now h_0_now_lies h_0_now_tops h_0_now_list h_0_rules r_0_rules T_0_now T_0_nowu24 hc25) (cwV 0 hts (TBL_V mw_239 mw_240 mw_241 mw_17 mw_242) rfl rfl rfl pmX4_listMoves ⟨Nat.le_of_ble_eq_true rfl, Nat.le_of_ble_eq_true rfl⟩) hS hA [1, 2, 3, 4, 21] [0, 5, 6, 7, 8, 9, 10, 11, 12, 13, 14, 15, 16, 17, 18, 19, 20] rfl rfl rfl rfl (by decide) rfl rfl rfl hl.1 rfl (Nat.le_of_ble_eq_true rfl) ⟨Nat.zero_le _, Nat.zero_le _⟩ dX5_hint_35 rfl (fun H locs hS => ?_)
    refine lv_iconst (v := (nI 0)) hx hb dX5_hint_38 (by decide) ?_
    refine lv_istore_n (lv' := [(2, .int (nI 0)), (1, .int x17), (0, .ref h_0)]) hx hb dX5_hint_39 rfl hl (by decide) rfl (fun ls hl => ?_)
    exact L40 FU Q_0_searcheru18 T_0_searcher_tableu20 T_0_nowu24 T_0_searcher_originu19 S_0_searcher_shelfu21 x17 (nI 0) _ _ _ (hS.sub [0, 1, 2, 3, 4, 9, 10, 11, 12, 17, 18, 19, 20, 5, 6, 7, 8, 13, 14, 15, 16, 21] rfl rfl) (lv_sub hl [2, 1, 0] rfl) hF
  · replace hF := ifn hF c_23
    refine lv_iconst (v := (-1)) hx hb dX5_hint_29 (by decide) ?_
    have e9_0 := Option.some.inj hF
    obtain ⟨f9_0, e9_1⟩ := Prod.mk.inj e9_0
    obtain ⟨f9_1, e9_2⟩ := Prod.mk.inj e9_1
    obtain ⟨f9_2, e9_3⟩ := Prod.mk.inj e9_2
    obtain ⟨f9_3, e9_4⟩ := Prod.mk.inj e9_3
    obtain ⟨f9_4, e9_5⟩ := Prod.mk.inj e9_4
    subst f9_0
    subst f9_1
    subst f9_2
    subst f9_3
    subst f9_4
    subst e9_5
    exact kret _ _ _ _ (hS.sub [0, 5, 6, 7, 8, 13, 14, 15, 16, 1, 2, 3, 4, 9, 10, 11, 12, 17, 18, 19, 20, 21] rfl rfl) dX5_hint_30
set_option maxHeartbeats 4000000 in
set_option maxRecDepth 100000 in
theorem c_X5_dealNumber (l : Launch) (D : va_G) (cI cJ : ClassId) (h_0 h_0_rules h_0_dealt h_0_dealt_row h_0_dealt_taken h_0_now h_0_now_lies h_0_now_tops h_0_now_list g_0_nextRules g_0_past g_0_searcher g_0_tried g_0_now_rules : Nat) (r_0_rules : Nat → Int32) (P_0 : Nat → Int32) (D_0_dealt : Nat → Nat → Int32) (T_0_now : Nat → Nat → Int32) (v1 : Int32) (v2 : Int32) (r_P_0 : Nat → Int32) (r_D_0_dealt : Nat → Nat → Int32) (r_T_0_now : Nat → Nat → Int32) (hF : F_X5_dealNumber r_0_rules P_0 D_0_dealt T_0_now v1 v2 = some (r_P_0, r_D_0_dealt, r_T_0_now)) : CtV l D [(cI, .int), (cJ, .long)] yX5_dealNumber wtX5_dealNumber ({ frames := 3, cells := 0, slots := 0, locals := 72 } : Room) [.ref h_0, .int v1, .int v2] [(h_0, oX5 g_0_nextRules h_0_rules h_0_now g_0_past g_0_searcher h_0_dealt g_0_tried P_0), (h_0_rules, oX1 r_0_rules), (h_0_dealt, oX0 h_0_dealt_row h_0_dealt_taken), (h_0_dealt_row, eI cI 16 (D_0_dealt 0)), (h_0_dealt_taken, eI cI 16 (D_0_dealt 1)), (h_0_now, oX4 g_0_now_rules h_0_now_lies h_0_now_tops h_0_now_list T_0_now), (h_0_now_lies, eI cI 16 (T_0_now 1)), (h_0_now_tops, eI cI 10 (T_0_now 2)), (h_0_now_list, eI cI 160 (T_0_now 3))] [(h_0, oX5 g_0_nextRules h_0_rules h_0_now g_0_past g_0_searcher h_0_dealt g_0_tried r_P_0), (h_0_rules, oX1 r_0_rules), (h_0_dealt, oX0 h_0_dealt_row h_0_dealt_taken), (h_0_dealt_row, eI cI 16 (r_D_0_dealt 0)), (h_0_dealt_taken, eI cI 16 (r_D_0_dealt 1)), (h_0_now, oX4 h_0_rules h_0_now_lies h_0_now_tops h_0_now_list r_T_0_now), (h_0_now_lies, eI cI 16 (r_T_0_now 1)), (h_0_now_tops, eI cI 10 (r_T_0_now 2)), (h_0_now_list, eI cI 160 (r_T_0_now 3))] := by
  refine CtV.of (cc := cX5_dealNumber) (maxL := 3) (by decide) rfl (Nat.le_of_ble_eq_true rfl) ?_
  intro p e s m args below meth c A H0 Q ls X hS hl kret
  have hCF := X.1
  obtain ⟨⟨hx, hb, hml, hown, hts⟩, hK, hA⟩ := X
  have hl : lv_has ls 3 [(0, .ref h_0), (1, .int v1), (2, .int v2)] := hl
  have q0 := hts (.fieldLink RX5 45 "Patiencery" "dealt" "LPatiencery$Drawing;") (List.mem_cons_of_mem _ mw_30)
  have inX5 : ∀ w ∈ u_ws RX5 TX5 10, w ∈ wtX5_dealNumber := fun w h => List.mem_cons_of_mem _ (inlX5 w h)
  have q2 := hts (.fieldLink RX5 16 "Patiencery" "rules" "LPatiencery$Rules;") (List.mem_cons_of_mem _ mw_14)
  have q3 := hts (.fieldLink RX5 22 "Patiencery" "now" "LPatiencery$Table;") (List.mem_cons_of_mem _ mw_18)
  have q4 := hts (.fieldLink RX5 52 "Patiencery" "done" "I") (List.mem_cons_of_mem _ mw_32)
  have q5 := hts (.fieldLink RX5 56 "Patiencery" "undone" "I") (List.mem_cons_of_mem _ mw_33)
  unfold F_X5_dealNumber at hF
  refine lv_aload_n hx hb dX5_dealNumber_0 rfl (lv_at hl 0 rfl) ?_
  refine r_get hx hb hts inX5 hown hK hS 0 5 rfl rfl (by decide) q0 rfl dX5_dealNumber_1 ?_
  refine lv_iload_n hx hb dX5_dealNumber_4 rfl (lv_at hl 1 rfl) ?_
  refine lv_iload_n hx hb dX5_dealNumber_5 rfl (lv_at hl 2 rfl) ?_
  refine lv_aload_n hx hb dX5_dealNumber_6 rfl (lv_at hl 0 rfl) ?_
  refine r_get hx hb hts inX5 hown hK hS 0 1 rfl rfl (by decide) q2 rfl dX5_dealNumber_7 ?_
  replace hF := cal1_e hF
  obtain ⟨x1, hc2, hF⟩ := hF
  refine kV_i (As := []) (rest := [.int v2, .int v1, .ref h_0_dealt]) (wr := [(h_0, oX5 g_0_nextRules h_0_rules h_0_now g_0_past g_0_searcher h_0_dealt g_0_tried P_0), (h_0_dealt, oX0 h_0_dealt_row h_0_dealt_taken), (h_0_dealt_row, eI cI 16 (D_0_dealt 0)), (h_0_dealt_taken, eI cI 16 (D_0_dealt 1)), (h_0_now, oX4 g_0_now_rules h_0_now_lies h_0_now_tops h_0_now_list T_0_now), (h_0_now_lies, eI cI 16 (T_0_now 1)), (h_0_now_tops, eI cI 10 (T_0_now 2)), (h_0_now_list, eI cI 160 (T_0_now 3))]) (w2 := [(h_0, oX5 g_0_nextRules h_0_rules h_0_now g_0_past g_0_searcher h_0_dealt g_0_tried P_0), (h_0_dealt, oX0 h_0_dealt_row h_0_dealt_taken), (h_0_dealt_row, eI cI 16 (D_0_dealt 0)), (h_0_dealt_taken, eI cI 16 (D_0_dealt 1)), (h_0_now, oX4 g_0_now_rules h_0_now_lies h_0_now_tops h_0_now_list T_0_now), (h_0_now_lies, eI cI 16 (T_0_now 1)), (h_0_now_tops, eI cI 10 (T_0_now 2)), (h_0_now_list, eI cI 160 (T_0_now 3)), (h_0_rules, oX1 r_0_rules)]) hCF hK (c_X1_cards l D cI cJ h_0_rules r_0_rules x1 hc2) (cwV 0 hts (TBL_V mw_93 mw_94 mw_95 mw_12 mw_96) rfl rfl rfl pmX1_cards ⟨Nat.le_of_ble_eq_true rfl, Nat.le_of_ble_eq_true rfl⟩) hS hA [1] [0, 2, 3, 4, 5, 6, 7, 8] rfl rfl rfl rfl (by decide) rfl rfl rfl hl.1 rfl (Nat.le_of_ble_eq_true rfl) ⟨Nat.zero_le _, Nat.zero_le _⟩ dX5_dealNumber_10 rfl (fun H locs hS => ?_)
  replace hF := cal1_e hF
  obtain ⟨D_0_dealtu3, hc4, hF⟩ := hF
  refine kV_v (As := [.int v1, .int v2, .int x1]) (rest := []) (wr := [(h_0, oX5 g_0_nextRules h_0_rules h_0_now g_0_past g_0_searcher h_0_dealt g_0_tried P_0), (h_0_now, oX4 g_0_now_rules h_0_now_lies h_0_now_tops h_0_now_list T_0_now), (h_0_now_lies, eI cI 16 (T_0_now 1)), (h_0_now_tops, eI cI 10 (T_0_now 2)), (h_0_now_list, eI cI 160 (T_0_now 3)), (h_0_rules, oX1 r_0_rules)]) (w2 := [(h_0, oX5 g_0_nextRules h_0_rules h_0_now g_0_past g_0_searcher h_0_dealt g_0_tried P_0), (h_0_now, oX4 g_0_now_rules h_0_now_lies h_0_now_tops h_0_now_list T_0_now), (h_0_now_lies, eI cI 16 (T_0_now 1)), (h_0_now_tops, eI cI 10 (T_0_now 2)), (h_0_now_list, eI cI 160 (T_0_now 3)), (h_0_rules, oX1 r_0_rules), (h_0_dealt, oX0 h_0_dealt_row h_0_dealt_taken), (h_0_dealt_row, eI cI 16 (D_0_dealtu3 0)), (h_0_dealt_taken, eI cI 16 (D_0_dealtu3 1))]) hCF hK (c_X0_draw l D cI cJ h_0_dealt h_0_dealt_row h_0_dealt_taken D_0_dealt v1 v2 x1 D_0_dealtu3 hc4) (cwV 3 hts (TBL_V mw_97 mw_98 mw_99 mw_29 mw_100) rfl rfl rfl pmX0_draw ⟨Nat.le_of_ble_eq_true rfl, Nat.le_of_ble_eq_true rfl⟩) hS hA [1, 2, 3] [0, 4, 5, 6, 7, 8] rfl rfl rfl rfl (by decide) rfl rfl rfl hl.1 rfl (Nat.le_of_ble_eq_true rfl) ⟨Nat.zero_le _, Nat.zero_le _⟩ dX5_dealNumber_13 rfl (fun H locs hS => ?_)
  refine lv_aload_n hx hb dX5_dealNumber_16 rfl (lv_at hl 0 rfl) ?_
  refine r_get hx hb hts inX5 hown hK hS 0 2 rfl rfl (by decide) q3 rfl dX5_dealNumber_17 ?_
  refine lv_aload_n hx hb dX5_dealNumber_20 rfl (lv_at hl 0 rfl) ?_
  refine r_get hx hb hts inX5 hown hK hS 0 1 rfl rfl (by decide) q2 rfl dX5_dealNumber_21 ?_
  refine lv_aload_n hx hb dX5_dealNumber_24 rfl (lv_at hl 0 rfl) ?_
  refine r_get hx hb hts inX5 hown hK hS 0 5 rfl rfl (by decide) q0 rfl dX5_dealNumber_25 ?_
  replace hF := cal1_e hF
  obtain ⟨T_0_nowu5, hc6, hF⟩ := hF
  refine kV_v (As := [.ref h_0_rules, .ref h_0_dealt]) (rest := []) (wr := [(h_0, oX5 g_0_nextRules h_0_rules h_0_now g_0_past g_0_searcher h_0_dealt g_0_tried P_0)]) (w2 := [(h_0, oX5 g_0_nextRules h_0_rules h_0_now g_0_past g_0_searcher h_0_dealt g_0_tried P_0), (h_0_now, oX4 h_0_rules h_0_now_lies h_0_now_tops h_0_now_list T_0_nowu5), (h_0_now_lies, eI cI 16 (T_0_nowu5 1)), (h_0_now_tops, eI cI 10 (T_0_nowu5 2)), (h_0_now_list, eI cI 160 (T_0_nowu5 3)), (h_0_rules, oX1 r_0_rules), (h_0_dealt, oX0 h_0_dealt_row h_0_dealt_taken), (h_0_dealt_row, eI cI 16 (D_0_dealtu3 0)), (h_0_dealt_taken, eI cI 16 (D_0_dealtu3 1))]) hCF hK (c_X4_lay l D cI cJ h_0_now h_0_now_lies h_0_now_tops h_0_now_list h_0_rules h_0_dealt h_0_dealt_row h_0_dealt_taken g_0_now_rules r_0_rules D_0_dealtu3 T_0_now T_0_nowu5 hc6) (cwV 2 hts (TBL_V mw_117 mw_118 mw_119 mw_17 mw_120) rfl rfl rfl pmX4_lay ⟨Nat.le_of_ble_eq_true rfl, Nat.le_of_ble_eq_true rfl⟩) hS hA [1, 2, 3, 4, 5, 6, 7, 8] [0] rfl rfl rfl rfl (by decide) rfl rfl rfl hl.1 rfl (Nat.le_of_ble_eq_true rfl) ⟨Nat.zero_le _, Nat.zero_le _⟩ dX5_dealNumber_28 rfl (fun H locs hS => ?_)
  refine lv_aload_n hx hb dX5_dealNumber_31 rfl (lv_at hl 0 rfl) ?_
  refine lv_iconst (v := (nI 0)) hx hb dX5_dealNumber_32 (by decide) ?_
  replace hF := bnd_e hF
  obtain ⟨P_0u7, eP_0u7, hF⟩ := hF
  refine r_put (w2 := [(h_0, oX5 g_0_nextRules h_0_rules h_0_now g_0_past g_0_searcher h_0_dealt g_0_tried P_0u7), (h_0_now, oX4 h_0_rules h_0_now_lies h_0_now_tops h_0_now_list T_0_nowu5), (h_0_now_lies, eI cI 16 (T_0_nowu5 1)), (h_0_now_tops, eI cI 10 (T_0_nowu5 2)), (h_0_now_list, eI cI 160 (T_0_nowu5 3)), (h_0_rules, oX1 r_0_rules), (h_0_dealt, oX0 h_0_dealt_row h_0_dealt_taken), (h_0_dealt_row, eI cI 16 (D_0_dealtu3 0)), (h_0_dealt_taken, eI cI 16 (D_0_dealtu3 1))]) hx hb hts inX5 tyX5 tyX5_ok nmX5 hown hK hS 0 7 rfl rfl (by decide) q4 rfl rfl rfl (Nat.le_of_ble_eq_true rfl) dX5_dealNumber_33 (by rw [eP_0u7]; rfl) (fun H locs hS => ?_)
  refine lv_aload_n hx hb dX5_dealNumber_36 rfl (lv_at hl 0 rfl) ?_
  refine lv_iconst (v := (nI 0)) hx hb dX5_dealNumber_37 (by decide) ?_
  replace hF := bnd_e hF
  obtain ⟨P_0u8, eP_0u8, hF⟩ := hF
  refine r_put (w2 := [(h_0, oX5 g_0_nextRules h_0_rules h_0_now g_0_past g_0_searcher h_0_dealt g_0_tried P_0u8), (h_0_now, oX4 h_0_rules h_0_now_lies h_0_now_tops h_0_now_list T_0_nowu5), (h_0_now_lies, eI cI 16 (T_0_nowu5 1)), (h_0_now_tops, eI cI 10 (T_0_nowu5 2)), (h_0_now_list, eI cI 160 (T_0_nowu5 3)), (h_0_rules, oX1 r_0_rules), (h_0_dealt, oX0 h_0_dealt_row h_0_dealt_taken), (h_0_dealt_row, eI cI 16 (D_0_dealtu3 0)), (h_0_dealt_taken, eI cI 16 (D_0_dealtu3 1))]) hx hb hts inX5 tyX5 tyX5_ok nmX5 hown hK hS 0 8 rfl rfl (by decide) q5 rfl rfl rfl (Nat.le_of_ble_eq_true rfl) dX5_dealNumber_38 (by rw [eP_0u8]; rfl) (fun H locs hS => ?_)
  have e9_0 := Option.some.inj hF
  obtain ⟨f9_0, e9_1⟩ := Prod.mk.inj e9_0
  obtain ⟨f9_1, e9_2⟩ := Prod.mk.inj e9_1
  subst f9_0
  subst f9_1
  subst e9_2
  exact kret _ _ _ _ (hS.sub [0, 5, 6, 7, 8, 1, 2, 3, 4] rfl rfl) dX5_dealNumber_41
set_option maxHeartbeats 4000000 in
set_option maxRecDepth 100000 in
theorem c_X5_moneyOfDeal (l : Launch) (D : va_G) (cI cJ : ClassId) (h_0 h_0_now h_0_now_lies h_0_now_tops h_0_now_list h_0_rules g_0_nextRules g_0_past g_0_searcher g_0_dealt g_0_tried : Nat) (P_0 : Nat → Int32) (T_0_now : Nat → Nat → Int32) (r_0_rules : Nat → Int32) (rv : Int32) (hF : F_X5_moneyOfDeal P_0 T_0_now r_0_rules = some rv) : CtI l D [(cI, .int), (cJ, .long)] yX5_moneyOfDeal wtX5_moneyOfDeal ({ frames := 3, cells := 0, slots := 0, locals := 64 } : Room) [.ref h_0] [(h_0, oX5 g_0_nextRules h_0_rules h_0_now g_0_past g_0_searcher g_0_dealt g_0_tried P_0), (h_0_now, oX4 h_0_rules h_0_now_lies h_0_now_tops h_0_now_list T_0_now), (h_0_now_lies, eI cI 16 (T_0_now 1)), (h_0_now_tops, eI cI 10 (T_0_now 2)), (h_0_now_list, eI cI 160 (T_0_now 3)), (h_0_rules, oX1 r_0_rules)] [(h_0, oX5 g_0_nextRules h_0_rules h_0_now g_0_past g_0_searcher g_0_dealt g_0_tried P_0), (h_0_now, oX4 h_0_rules h_0_now_lies h_0_now_tops h_0_now_list T_0_now), (h_0_now_lies, eI cI 16 (T_0_now 1)), (h_0_now_tops, eI cI 10 (T_0_now 2)), (h_0_now_list, eI cI 160 (T_0_now 3)), (h_0_rules, oX1 r_0_rules)] rv := by
  refine CtI.of (cc := cX5_moneyOfDeal) (maxL := 1) (by decide) rfl (Nat.le_of_ble_eq_true rfl) ?_
  intro p e s m args below meth c A H0 Q ls X hS hl kret
  have hCF := X.1
  obtain ⟨⟨hx, hb, hml, hown, hts⟩, hK, hA⟩ := X
  have hl : lv_has ls 1 [(0, .ref h_0)] := hl
  have q0 := hts (.fieldLink RX5 22 "Patiencery" "now" "LPatiencery$Table;") (List.mem_cons_of_mem _ mw_18)
  have inX5 : ∀ w ∈ u_ws RX5 TX5 10, w ∈ wtX5_moneyOfDeal := fun w h => List.mem_cons_of_mem _ (inlX5 w h)
  have q2 := hts (.fieldLink RX5 52 "Patiencery" "done" "I") (List.mem_cons_of_mem _ mw_32)
  have q3 := hts (.fieldLink RX5 56 "Patiencery" "undone" "I") (List.mem_cons_of_mem _ mw_33)
  unfold F_X5_moneyOfDeal at hF
  refine lv_iconst (v := (nI 5)) hx hb dX5_moneyOfDeal_0 (by decide) ?_
  refine lv_aload_n hx hb dX5_moneyOfDeal_1 rfl (lv_at hl 0 rfl) ?_
  refine r_get hx hb hts inX5 hown hK hS 0 2 rfl rfl (by decide) q0 rfl dX5_moneyOfDeal_2 ?_
  replace hF := cal1_e hF
  obtain ⟨x1, hc2, hF⟩ := hF
  refine kV_i (As := []) (rest := [.int (nI 5)]) (wr := [(h_0, oX5 g_0_nextRules h_0_rules h_0_now g_0_past g_0_searcher g_0_dealt g_0_tried P_0)]) (w2 := [(h_0, oX5 g_0_nextRules h_0_rules h_0_now g_0_past g_0_searcher g_0_dealt g_0_tried P_0), (h_0_now, oX4 h_0_rules h_0_now_lies h_0_now_tops h_0_now_list T_0_now), (h_0_now_lies, eI cI 16 (T_0_now 1)), (h_0_now_tops, eI cI 10 (T_0_now 2)), (h_0_now_list, eI cI 160 (T_0_now 3)), (h_0_rules, oX1 r_0_rules)]) hCF hK (c_X4_cardsUp l D cI cJ h_0_now h_0_now_lies h_0_now_tops h_0_now_list h_0_rules T_0_now r_0_rules x1 hc2) (cwV 0 hts (TBL_V mw_209 mw_210 mw_211 mw_17 mw_212) rfl rfl rfl pmX4_cardsUp ⟨Nat.le_of_ble_eq_true rfl, Nat.le_of_ble_eq_true rfl⟩) hS hA [1, 2, 3, 4, 5] [0] rfl rfl rfl rfl (by decide) rfl rfl rfl hl.1 rfl (Nat.le_of_ble_eq_true rfl) ⟨Nat.zero_le _, Nat.zero_le _⟩ dX5_moneyOfDeal_5 rfl (fun H locs hS => ?_)
  refine lv_imul hx hb dX5_moneyOfDeal_8 ?_
  refine lv_aload_n hx hb dX5_moneyOfDeal_9 rfl (lv_at hl 0 rfl) ?_
  refine r_get hx hb hts inX5 hown hK hS 0 7 rfl rfl (by decide) q2 rfl dX5_moneyOfDeal_10 ?_
  refine lv_isub hx hb dX5_moneyOfDeal_13 ?_
  refine lv_iconst (v := (nI 2)) hx hb dX5_moneyOfDeal_14 (by decide) ?_
  refine lv_aload_n hx hb dX5_moneyOfDeal_15 rfl (lv_at hl 0 rfl) ?_
  refine r_get hx hb hts inX5 hown hK hS 0 8 rfl rfl (by decide) q3 rfl dX5_moneyOfDeal_16 ?_
  refine lv_imul hx hb dX5_moneyOfDeal_19 ?_
  refine lv_isub hx hb dX5_moneyOfDeal_20 ?_
  have e9_0 := Option.some.inj hF
  subst e9_0
  exact kret _ _ _ _ hS dX5_moneyOfDeal_21
