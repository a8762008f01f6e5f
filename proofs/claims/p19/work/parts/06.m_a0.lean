set_option maxHeartbeats 4000000 in
set_option maxRecDepth 100000 in
theorem c_X1_rankOf (l : Launch) (D : va_G) (cI cJ : ClassId) (h_0 : Nat) (r_0 : Nat → Int32) (v1 : Int32) (rv : Int32) (hF : F_X1_rankOf r_0 v1 = some rv) : CtI l D [(cI, .int), (cJ, .long)] yX1_rankOf wtX1_rankOf ({ frames := 0, cells := 0, slots := 0, locals := 0 } : Room) [.ref h_0, .int v1] [(h_0, oX1 r_0)] [(h_0, oX1 r_0)] rv := by
  refine CtI.of (cc := cX1_rankOf) (maxL := 2) (by decide) rfl (Nat.le_of_ble_eq_true rfl) ?_
  intro p e s m args below meth c A H0 Q ls X hS hl kret
  have hCF := X.1
  obtain ⟨⟨hx, hb, hml, hown, hts⟩, hK, hA⟩ := X
  have hl : lv_has ls 2 [(0, .ref h_0), (1, .int v1)] := hl
  have q0 := hts (.fieldLink RX1 15 "Patiencery$Rules" "ranks" "I") (List.mem_cons_of_mem _ mw_39)
  have inX1 : ∀ w ∈ u_ws RX1 TX1 9, w ∈ wtX1_rankOf := fun w h => List.mem_cons_of_mem _ (inlX1 w h)
  unfold F_X1_rankOf at hF
  refine lv_aload_n hx hb dX1_rankOf_0 rfl (lv_at hl 0 rfl) ?_
  refine r_get hx hb hts inX1 hown hK hS 0 1 rfl rfl (by decide) q0 rfl dX1_rankOf_1 ?_
  refine lv_if_le (tgt := 18) hx hb dX1_rankOf_4 (by decide) (fun c_1 => ?_) (fun c_1 => ?_)
  · replace hF := ifp hF c_1
    refine lv_iconst (v := (nI 0)) hx hb dX1_rankOf_18 (by decide) ?_
    have e9_0 := Option.some.inj hF
    subst e9_0
    exact kret _ _ _ _ hS dX1_rankOf_19
  · replace hF := ifn hF c_1
    refine lv_iload_n hx hb dX1_rankOf_7 rfl (lv_at hl 1 rfl) ?_
    refine lv_aload_n hx hb dX1_rankOf_8 rfl (lv_at hl 0 rfl) ?_
    refine r_get hx hb hts inX1 hown hK hS 0 1 rfl rfl (by decide) q0 rfl dX1_rankOf_9 ?_
    replace hF := nz_e hF
    obtain ⟨hne2, hF⟩ := hF
    refine lv_irem hx hb dX1_rankOf_12 hne2 ?_
    refine lv_iconst (v := (nI 1)) hx hb dX1_rankOf_13 (by decide) ?_
    refine lv_iadd hx hb dX1_rankOf_14 ?_
    refine lv_goto (tgt := 19) hx hb dX1_rankOf_15 (by decide) ?_
    have e9_0 := Option.some.inj hF
    subst e9_0
    exact kret _ _ _ _ hS dX1_rankOf_19
set_option maxHeartbeats 4000000 in
set_option maxRecDepth 100000 in
theorem c_X5_at (l : Launch) (D : va_G) (cI cJ : ClassId) (h_0 : Nat) (n_0 : Nat) (f_0 : Nat → Int32) (v1 : Int32) (rv : Int32) (hF : F_X5_at f_0 n_0 v1 = some rv) : CtI l D [(cI, .int), (cJ, .long)] yX5_at wtX5_at ({ frames := 0, cells := 0, slots := 0, locals := 0 } : Room) [.ref h_0, .int v1] [(h_0, eI cI n_0 f_0)] [(h_0, eI cI n_0 f_0)] rv := by
  refine CtI.of (cc := cX5_at) (maxL := 2) (by decide) rfl (Nat.le_of_ble_eq_true rfl) ?_
  intro p e s m args below meth c A H0 Q ls X hS hl kret
  have hCF := X.1
  obtain ⟨⟨hx, hb, hml, hown, hts⟩, hK, hA⟩ := X
  have hl : lv_has ls 2 [(0, .ref h_0), (1, .int v1)] := hl
  unfold F_X5_at at hF
  refine lv_iload_n hx hb dX5_at_0 rfl (lv_at hl 1 rfl) ?_
  refine lv_if_lt (tgt := 16) hx hb dX5_at_1 (by decide) (fun c_1 => ?_) (fun c_1 => ?_)
  · replace hF := ifp hF c_1
    refine lv_iconst (v := (-1)) hx hb dX5_at_16 (by decide) ?_
    have e9_0 := Option.some.inj hF
    subst e9_0
    exact kret _ _ _ _ hS dX5_at_17
  · replace hF := ifn hF c_1
    refine lv_iload_n hx hb dX5_at_4 rfl (lv_at hl 1 rfl) ?_
    refine lv_aload_n hx hb dX5_at_5 rfl (lv_at hl 0 rfl) ?_
    refine r_alenI hx hb hK hS 0 rfl rfl dX5_at_6 ?_
    refine lv_icmp_ge (tgt := 16) hx hb dX5_at_7 (by decide) (fun c_2 => ?_) (fun c_2 => ?_)
    · replace hF := ifp hF c_2
      refine lv_iconst (v := (-1)) hx hb dX5_at_16 (by decide) ?_
      have e9_0 := Option.some.inj hF
      subst e9_0
      exact kret _ _ _ _ hS dX5_at_17
    · replace hF := ifn hF c_2
      refine lv_aload_n hx hb dX5_at_10 rfl (lv_at hl 0 rfl) ?_
      refine lv_iload_n hx hb dX5_at_11 rfl (lv_at hl 1 rfl) ?_
      replace hF := rdA_e hF
      obtain ⟨hi4, x3, ex3, hF⟩ := hF
      refine r_iald hx hb hK hS 0 rfl rfl hi4 dX5_at_12 ex3 ?_
      refine lv_goto (tgt := 17) hx hb dX5_at_13 (by decide) ?_
      have e9_0 := Option.some.inj hF
      subst e9_0
      exact kret _ _ _ _ hS dX5_at_17
set_option maxHeartbeats 4000000 in
set_option maxRecDepth 100000 in
theorem c_X5_isCell (l : Launch) (D : va_G) (cI cJ : ClassId) (v0 : Int32) (rv : Int32) (hF : F_X5_isCell v0 = some rv) : CtI l D [(cI, .int), (cJ, .long)] yX5_isCell wtX5_isCell ({ frames := 0, cells := 0, slots := 0, locals := 0 } : Room) [.int v0] [] [] rv := by
  refine CtZ.of (cc := cX5_isCell) (maxL := 1) (by decide) rfl (Nat.le_of_ble_eq_true rfl) ?_
  intro p e s m args below meth c A H0 Q ls X hS hl kret
  have hCF := X.1
  obtain ⟨⟨hx, hb, hml, hown, hts⟩, hK, hA⟩ := X
  have hl : lv_has ls 1 [(0, .int v0)] := hl
  unfold F_X5_isCell at hF
  refine lv_iload_n hx hb dX5_isCell_0 rfl (lv_at hl 0 rfl) ?_
  refine lv_iconst (v := (nI 5)) hx hb dX5_isCell_1 (by decide) ?_
  refine lv_icmp_lt (tgt := 15) hx hb dX5_isCell_2 (by decide) (fun c_1 => ?_) (fun c_1 => ?_)
  · replace hF := ifp hF c_1
    refine lv_iconst (v := (nI 0)) hx hb dX5_isCell_15 (by decide) ?_
    replace hF := zb_e hF
    obtain ⟨h01_2, hF⟩ := hF
    have e9_0 := Option.some.inj hF
    subst e9_0
    exact kret _ _ _ _ h01_2 hS dX5_isCell_16
  · replace hF := ifn hF c_1
    refine lv_iload_n hx hb dX5_isCell_5 rfl (lv_at hl 0 rfl) ?_
    refine lv_bipush (v := (nI 7)) hx hb dX5_isCell_6 (by decide) ?_
    refine lv_icmp_ge (tgt := 15) hx hb dX5_isCell_8 (by decide) (fun c_3 => ?_) (fun c_3 => ?_)
    · replace hF := ifp hF c_3
      refine lv_iconst (v := (nI 0)) hx hb dX5_isCell_15 (by decide) ?_
      replace hF := zb_e hF
      obtain ⟨h01_4, hF⟩ := hF
      have e9_0 := Option.some.inj hF
      subst e9_0
      exact kret _ _ _ _ h01_4 hS dX5_isCell_16
    · replace hF := ifn hF c_3
      refine lv_iconst (v := (nI 1)) hx hb dX5_isCell_11 (by decide) ?_
      refine lv_goto (tgt := 16) hx hb dX5_isCell_12 (by decide) ?_
      replace hF := zb_e hF
      obtain ⟨h01_5, hF⟩ := hF
      have e9_0 := Option.some.inj hF
      subst e9_0
      exact kret _ _ _ _ h01_5 hS dX5_isCell_16
set_option maxHeartbeats 4000000 in
set_option maxRecDepth 100000 in
theorem c_X5_isColumn (l : Launch) (D : va_G) (cI cJ : ClassId) (v0 : Int32) (rv : Int32) (hF : F_X5_isColumn v0 = some rv) : CtI l D [(cI, .int), (cJ, .long)] yX5_isColumn wtX5_isColumn ({ frames := 0, cells := 0, slots := 0, locals := 0 } : Room) [.int v0] [] [] rv := by
  refine CtZ.of (cc := cX5_isColumn) (maxL := 1) (by decide) rfl (Nat.le_of_ble_eq_true rfl) ?_
  intro p e s m args below meth c A H0 Q ls X hS hl kret
  have hCF := X.1
  obtain ⟨⟨hx, hb, hml, hown, hts⟩, hK, hA⟩ := X
  have hl : lv_has ls 1 [(0, .int v0)] := hl
  unfold F_X5_isColumn at hF
  refine lv_iload_n hx hb dX5_isColumn_0 rfl (lv_at hl 0 rfl) ?_
  refine lv_if_lt (tgt := 13) hx hb dX5_isColumn_1 (by decide) (fun c_1 => ?_) (fun c_1 => ?_)
  · replace hF := ifp hF c_1
    refine lv_iconst (v := (nI 0)) hx hb dX5_isColumn_13 (by decide) ?_
    replace hF := zb_e hF
    obtain ⟨h01_2, hF⟩ := hF
    have e9_0 := Option.some.inj hF
    subst e9_0
    exact kret _ _ _ _ h01_2 hS dX5_isColumn_14
  · replace hF := ifn hF c_1
    refine lv_iload_n hx hb dX5_isColumn_4 rfl (lv_at hl 0 rfl) ?_
    refine lv_iconst (v := (nI 5)) hx hb dX5_isColumn_5 (by decide) ?_
    refine lv_icmp_ge (tgt := 13) hx hb dX5_isColumn_6 (by decide) (fun c_3 => ?_) (fun c_3 => ?_)
    · replace hF := ifp hF c_3
      refine lv_iconst (v := (nI 0)) hx hb dX5_isColumn_13 (by decide) ?_
      replace hF := zb_e hF
      obtain ⟨h01_4, hF⟩ := hF
      have e9_0 := Option.some.inj hF
      subst e9_0
      exact kret _ _ _ _ h01_4 hS dX5_isColumn_14
    · replace hF := ifn hF c_3
      refine lv_iconst (v := (nI 1)) hx hb dX5_isColumn_9 (by decide) ?_
      refine lv_goto (tgt := 14) hx hb dX5_isColumn_10 (by decide) ?_
      replace hF := zb_e hF
      obtain ⟨h01_5, hF⟩ := hF
      have e9_0 := Option.some.inj hF
      subst e9_0
      exact kret _ _ _ _ h01_5 hS dX5_isColumn_14
set_option maxHeartbeats 4000000 in
set_option maxRecDepth 100000 in
theorem c_X5_isCard (l : Launch) (D : va_G) (cI cJ : ClassId) (v0 : Int32) (rv : Int32) (hF : F_X5_isCard v0 = some rv) : CtI l D [(cI, .int), (cJ, .long)] yX5_isCard wtX5_isCard ({ frames := 0, cells := 0, slots := 0, locals := 0 } : Room) [.int v0] [] [] rv := by
  refine CtZ.of (cc := cX5_isCard) (maxL := 1) (by decide) rfl (Nat.le_of_ble_eq_true rfl) ?_
  intro p e s m args below meth c A H0 Q ls X hS hl kret
  have hCF := X.1
  obtain ⟨⟨hx, hb, hml, hown, hts⟩, hK, hA⟩ := X
  have hl : lv_has ls 1 [(0, .int v0)] := hl
  unfold F_X5_isCard at hF
  refine lv_iload_n hx hb dX5_isCard_0 rfl (lv_at hl 0 rfl) ?_
  refine lv_if_lt (tgt := 14) hx hb dX5_isCard_1 (by decide) (fun c_1 => ?_) (fun c_1 => ?_)
  · replace hF := ifp hF c_1
    refine lv_iconst (v := (nI 0)) hx hb dX5_isCard_14 (by decide) ?_
    replace hF := zb_e hF
    obtain ⟨h01_2, hF⟩ := hF
    have e9_0 := Option.some.inj hF
    subst e9_0
    exact kret _ _ _ _ h01_2 hS dX5_isCard_15
  · replace hF := ifn hF c_1
    refine lv_iload_n hx hb dX5_isCard_4 rfl (lv_at hl 0 rfl) ?_
    refine lv_bipush (v := (nI 16)) hx hb dX5_isCard_5 (by decide) ?_
    refine lv_icmp_ge (tgt := 14) hx hb dX5_isCard_7 (by decide) (fun c_3 => ?_) (fun c_3 => ?_)
    · replace hF := ifp hF c_3
      refine lv_iconst (v := (nI 0)) hx hb dX5_isCard_14 (by decide) ?_
      replace hF := zb_e hF
      obtain ⟨h01_4, hF⟩ := hF
      have e9_0 := Option.some.inj hF
      subst e9_0
      exact kret _ _ _ _ h01_4 hS dX5_isCard_15
    · replace hF := ifn hF c_3
      refine lv_iconst (v := (nI 1)) hx hb dX5_isCard_10 (by decide) ?_
      refine lv_goto (tgt := 15) hx hb dX5_isCard_11 (by decide) ?_
      replace hF := zb_e hF
      obtain ⟨h01_5, hF⟩ := hF
      have e9_0 := Option.some.inj hF
      subst e9_0
      exact kret _ _ _ _ h01_5 hS dX5_isCard_15
set_option maxHeartbeats 4000000 in
set_option maxRecDepth 100000 in
theorem c_X1_suitOf (l : Launch) (D : va_G) (cI cJ : ClassId) (h_0 : Nat) (r_0 : Nat → Int32) (v1 : Int32) (rv : Int32) (hF : F_X1_suitOf r_0 v1 = some rv) : CtI l D [(cI, .int), (cJ, .long)] yX1_suitOf wtX1_suitOf ({ frames := 0, cells := 0, slots := 0, locals := 0 } : Room) [.ref h_0, .int v1] [(h_0, oX1 r_0)] [(h_0, oX1 r_0)] rv := by
  refine CtI.of (cc := cX1_suitOf) (maxL := 2) (by decide) rfl (Nat.le_of_ble_eq_true rfl) ?_
  intro p e s m args below meth c A H0 Q ls X hS hl kret
  have hCF := X.1
  obtain ⟨⟨hx, hb, hml, hown, hts⟩, hK, hA⟩ := X
  have hl : lv_has ls 2 [(0, .ref h_0), (1, .int v1)] := hl
  have q0 := hts (.fieldLink RX1 15 "Patiencery$Rules" "ranks" "I") (List.mem_cons_of_mem _ mw_39)
  have inX1 : ∀ w ∈ u_ws RX1 TX1 9, w ∈ wtX1_suitOf := fun w h => List.mem_cons_of_mem _ (inlX1 w h)
  unfold F_X1_suitOf at hF
  refine lv_aload_n hx hb dX1_suitOf_0 rfl (lv_at hl 0 rfl) ?_
  refine r_get hx hb hts inX1 hown hK hS 0 1 rfl rfl (by decide) q0 rfl dX1_suitOf_1 ?_
  refine lv_if_le (tgt := 16) hx hb dX1_suitOf_4 (by decide) (fun c_1 => ?_) (fun c_1 => ?_)
  · replace hF := ifp hF c_1
    refine lv_iconst (v := (nI 0)) hx hb dX1_suitOf_16 (by decide) ?_
    have e9_0 := Option.some.inj hF
    subst e9_0
    exact kret _ _ _ _ hS dX1_suitOf_17
  · replace hF := ifn hF c_1
    refine lv_iload_n hx hb dX1_suitOf_7 rfl (lv_at hl 1 rfl) ?_
    refine lv_aload_n hx hb dX1_suitOf_8 rfl (lv_at hl 0 rfl) ?_
    refine r_get hx hb hts inX1 hown hK hS 0 1 rfl rfl (by decide) q0 rfl dX1_suitOf_9 ?_
    replace hF := nz_e hF
    obtain ⟨hne2, hF⟩ := hF
    refine lv_idiv hx hb dX1_suitOf_12 hne2 ?_
    refine lv_goto (tgt := 17) hx hb dX1_suitOf_13 (by decide) ?_
    have e9_0 := Option.some.inj hF
    subst e9_0
    exact kret _ _ _ _ hS dX1_suitOf_17
set_option maxHeartbeats 4000000 in
set_option maxRecDepth 100000 in
theorem c_X1_isFitting (l : Launch) (D : va_G) (cI cJ : ClassId) (h_0 : Nat) (r_0 : Nat → Int32) (v1 : Int32) (v2 : Int32) (rv : Int32) (hF : F_X1_isFitting r_0 v1 v2 = some rv) : CtI l D [(cI, .int), (cJ, .long)] yX1_isFitting wtX1_isFitting ({ frames := 1, cells := 0, slots := 0, locals := 21 } : Room) [.ref h_0, .int v1, .int v2] [(h_0, oX1 r_0)] [(h_0, oX1 r_0)] rv := by
  refine CtZ.of (cc := cX1_isFitting) (maxL := 3) (by decide) rfl (Nat.le_of_ble_eq_true rfl) ?_
  intro p e s m args below meth c A H0 Q ls X hS hl kret
  have hCF := X.1
  obtain ⟨⟨hx, hb, hml, hown, hts⟩, hK, hA⟩ := X
  have hl : lv_has ls 3 [(0, .ref h_0), (1, .int v1), (2, .int v2)] := hl
  have q0 := hts (.fieldLink RX1 24 "Patiencery$Rules" "build" "I") (List.mem_cons_of_mem _ mw_42)
  have inX1 : ∀ w ∈ u_ws RX1 TX1 9, w ∈ wtX1_isFitting := fun w h => List.mem_cons_of_mem _ (inlX1 w h)
  unfold F_X1_isFitting at hF
  refine lv_aload_n hx hb dX1_isFitting_0 rfl (lv_at hl 0 rfl) ?_
  refine lv_iload_n hx hb dX1_isFitting_1 rfl (lv_at hl 1 rfl) ?_
  replace hF := cal1_e hF
  obtain ⟨x1, hc2, hF⟩ := hF
  refine kV_i (As := [.int v1]) (rest := []) (wr := []) (w2 := [(h_0, oX1 r_0)]) hCF hK (c_X1_rankOf l D cI cJ h_0 r_0 v1 x1 hc2) (cwV 1 hts (TBL_V mw_261 mw_262 mw_263 mw_12 mw_264) rfl rfl rfl pmX1_rankOf ⟨Nat.le_of_ble_eq_true rfl, Nat.le_of_ble_eq_true rfl⟩) hS hA [0] [] rfl rfl rfl rfl (by decide) rfl rfl rfl hl.1 rfl (Nat.le_of_ble_eq_true rfl) ⟨Nat.zero_le _, Nat.zero_le _⟩ dX1_isFitting_2 rfl (fun H locs hS => ?_)
  refine lv_aload_n hx hb dX1_isFitting_5 rfl (lv_at hl 0 rfl) ?_
  refine lv_iload_n hx hb dX1_isFitting_6 rfl (lv_at hl 2 rfl) ?_
  replace hF := cal1_e hF
  obtain ⟨x3, hc4, hF⟩ := hF
  refine kV_i (As := [.int v2]) (rest := [.int x1]) (wr := []) (w2 := [(h_0, oX1 r_0)]) hCF hK (c_X1_rankOf l D cI cJ h_0 r_0 v2 x3 hc4) (cwV 1 hts (TBL_V mw_261 mw_262 mw_263 mw_12 mw_264) rfl rfl rfl pmX1_rankOf ⟨Nat.le_of_ble_eq_true rfl, Nat.le_of_ble_eq_true rfl⟩) hS hA [0] [] rfl rfl rfl rfl (by decide) rfl rfl rfl hl.1 rfl (Nat.le_of_ble_eq_true rfl) ⟨Nat.zero_le _, Nat.zero_le _⟩ dX1_isFitting_7 rfl (fun H locs hS => ?_)
  refine lv_iconst (v := (nI 1)) hx hb dX1_isFitting_10 (by decide) ?_
  refine lv_isub hx hb dX1_isFitting_11 ?_
  refine lv_icmp_eq (tgt := 17) hx hb dX1_isFitting_12 (by decide) (fun c_5 => ?_) (fun c_5 => ?_)
  · replace hF := ifp hF c_5
    refine lv_aload_n hx hb dX1_isFitting_17 rfl (lv_at hl 0 rfl) ?_
    refine r_get hx hb hts inX1 hown hK hS 0 4 rfl rfl (by decide) q0 rfl dX1_isFitting_18 ?_
    by_cases c_6 : (r_0 4) = (nI 0)
    · replace hF := ifp hF c_6
      refine lv_lookup (tgt := 48) (off := 27) hx hb dX1_isFitting_21 (by decide) (by rw [c_6]; first | done | decide | rfl) (by decide) ?_
      refine lv_aload_n hx hb dX1_isFitting_48 rfl (lv_at hl 0 rfl) ?_
      refine lv_iload_n hx hb dX1_isFitting_49 rfl (lv_at hl 1 rfl) ?_
      replace hF := cal1_e hF
      obtain ⟨x7, hc8, hF⟩ := hF
      refine kV_i (As := [.int v1]) (rest := []) (wr := []) (w2 := [(h_0, oX1 r_0)]) hCF hK (c_X1_suitOf l D cI cJ h_0 r_0 v1 x7 hc8) (cwV 1 hts (TBL_V mw_265 mw_266 mw_267 mw_12 mw_268) rfl rfl rfl pmX1_suitOf ⟨Nat.le_of_ble_eq_true rfl, Nat.le_of_ble_eq_true rfl⟩) hS hA [0] [] rfl rfl rfl rfl (by decide) rfl rfl rfl hl.1 rfl (Nat.le_of_ble_eq_true rfl) ⟨Nat.zero_le _, Nat.zero_le _⟩ dX1_isFitting_50 rfl (fun H locs hS => ?_)
      refine lv_aload_n hx hb dX1_isFitting_53 rfl (lv_at hl 0 rfl) ?_
      refine lv_iload_n hx hb dX1_isFitting_54 rfl (lv_at hl 2 rfl) ?_
      replace hF := cal1_e hF
      obtain ⟨x9, hc10, hF⟩ := hF
      refine kV_i (As := [.int v2]) (rest := [.int x7]) (wr := []) (w2 := [(h_0, oX1 r_0)]) hCF hK (c_X1_suitOf l D cI cJ h_0 r_0 v2 x9 hc10) (cwV 1 hts (TBL_V mw_265 mw_266 mw_267 mw_12 mw_268) rfl rfl rfl pmX1_suitOf ⟨Nat.le_of_ble_eq_true rfl, Nat.le_of_ble_eq_true rfl⟩) hS hA [0] [] rfl rfl rfl rfl (by decide) rfl rfl rfl hl.1 rfl (Nat.le_of_ble_eq_true rfl) ⟨Nat.zero_le _, Nat.zero_le _⟩ dX1_isFitting_55 rfl (fun H locs hS => ?_)
      refine lv_icmp_ne (tgt := 65) hx hb dX1_isFitting_58 (by decide) (fun c_11 => ?_) (fun c_11 => ?_)
      · replace hF := ifn hF c_11
        refine lv_iconst (v := (nI 0)) hx hb dX1_isFitting_65 (by decide) ?_
        replace hF := zb_e hF
        obtain ⟨h01_12, hF⟩ := hF
        have e9_0 := Option.some.inj hF
        subst e9_0
        exact kret _ _ _ _ h01_12 hS dX1_isFitting_66
      · replace hF := ifp hF c_11
        refine lv_iconst (v := (nI 1)) hx hb dX1_isFitting_61 (by decide) ?_
        refine lv_goto (tgt := 66) hx hb dX1_isFitting_62 (by decide) ?_
        replace hF := zb_e hF
        obtain ⟨h01_13, hF⟩ := hF
        have e9_0 := Option.some.inj hF
        subst e9_0
        exact kret _ _ _ _ h01_13 hS dX1_isFitting_66
    replace hF := ifn hF c_6
    by_cases c_14 : (r_0 4) = (nI 1)
    · replace hF := ifp hF c_14
      refine lv_lookup (tgt := 67) (off := 46) hx hb dX1_isFitting_21 (by decide) (by rw [c_14]; first | done | decide | rfl) (by decide) ?_
      refine lv_aload_n hx hb dX1_isFitting_67 rfl (lv_at hl 0 rfl) ?_
      refine lv_iload_n hx hb dX1_isFitting_68 rfl (lv_at hl 1 rfl) ?_
      replace hF := cal1_e hF
      obtain ⟨x15, hc16, hF⟩ := hF
      refine kV_i (As := [.int v1]) (rest := []) (wr := []) (w2 := [(h_0, oX1 r_0)]) hCF hK (c_X1_suitOf l D cI cJ h_0 r_0 v1 x15 hc16) (cwV 1 hts (TBL_V mw_265 mw_266 mw_267 mw_12 mw_268) rfl rfl rfl pmX1_suitOf ⟨Nat.le_of_ble_eq_true rfl, Nat.le_of_ble_eq_true rfl⟩) hS hA [0] [] rfl rfl rfl rfl (by decide) rfl rfl rfl hl.1 rfl (Nat.le_of_ble_eq_true rfl) ⟨Nat.zero_le _, Nat.zero_le _⟩ dX1_isFitting_69 rfl (fun H locs hS => ?_)
      refine lv_iconst (v := (nI 2)) hx hb dX1_isFitting_72 (by decide) ?_
      replace hF := nz_e hF
      obtain ⟨hne17, hF⟩ := hF
      refine lv_irem hx hb dX1_isFitting_73 hne17 ?_
      refine lv_aload_n hx hb dX1_isFitting_74 rfl (lv_at hl 0 rfl) ?_
      refine lv_iload_n hx hb dX1_isFitting_75 rfl (lv_at hl 2 rfl) ?_
      replace hF := cal1_e hF
      obtain ⟨x18, hc19, hF⟩ := hF
      refine kV_i (As := [.int v2]) (rest := [.int (x15 - x15 / (nI 2) * (nI 2))]) (wr := []) (w2 := [(h_0, oX1 r_0)]) hCF hK (c_X1_suitOf l D cI cJ h_0 r_0 v2 x18 hc19) (cwV 1 hts (TBL_V mw_265 mw_266 mw_267 mw_12 mw_268) rfl rfl rfl pmX1_suitOf ⟨Nat.le_of_ble_eq_true rfl, Nat.le_of_ble_eq_true rfl⟩) hS hA [0] [] rfl rfl rfl rfl (by decide) rfl rfl rfl hl.1 rfl (Nat.le_of_ble_eq_true rfl) ⟨Nat.zero_le _, Nat.zero_le _⟩ dX1_isFitting_76 rfl (fun H locs hS => ?_)
      refine lv_iconst (v := (nI 2)) hx hb dX1_isFitting_79 (by decide) ?_
      replace hF := nz_e hF
      obtain ⟨hne20, hF⟩ := hF
      refine lv_irem hx hb dX1_isFitting_80 hne20 ?_
      refine lv_icmp_eq (tgt := 88) hx hb dX1_isFitting_81 (by decide) (fun c_21 => ?_) (fun c_21 => ?_)
      · replace hF := ifp hF c_21
        refine lv_iconst (v := (nI 0)) hx hb dX1_isFitting_88 (by decide) ?_
        replace hF := zb_e hF
        obtain ⟨h01_22, hF⟩ := hF
        have e9_0 := Option.some.inj hF
        subst e9_0
        exact kret _ _ _ _ h01_22 hS dX1_isFitting_89
      · replace hF := ifn hF c_21
        refine lv_iconst (v := (nI 1)) hx hb dX1_isFitting_84 (by decide) ?_
        refine lv_goto (tgt := 89) hx hb dX1_isFitting_85 (by decide) ?_
        replace hF := zb_e hF
        obtain ⟨h01_23, hF⟩ := hF
        have e9_0 := Option.some.inj hF
        subst e9_0
        exact kret _ _ _ _ h01_23 hS dX1_isFitting_89
    replace hF := ifn hF c_14
    refine lv_lookup (tgt := 90) (off := 69) hx hb dX1_isFitting_21 (by decide) (by have nc_6 := toInt_ne c_6 (k := 0) rfl; have nc_14 := toInt_ne c_14 (k := 1) rfl; simp [Op.lookupswitch.offset, nc_6.symm, nc_14.symm]) (by decide) ?_
    refine lv_iconst (v := (nI 1)) hx hb dX1_isFitting_90 (by decide) ?_
    replace hF := zb_e hF
    obtain ⟨h01_24, hF⟩ := hF
    have e9_0 := Option.some.inj hF
    subst e9_0
    exact kret _ _ _ _ h01_24 hS dX1_isFitting_91
  · replace hF := ifn hF c_5
    refine lv_iconst (v := (nI 0)) hx hb dX1_isFitting_15 (by decide) ?_
    replace hF := zb_e hF
    obtain ⟨h01_25, hF⟩ := hF
    have e9_0 := Option.some.inj hF
    subst e9_0
    exact kret _ _ _ _ h01_25 hS dX1_isFitting_16
set_option maxHeartbeats 4000000 in
set_option maxRecDepth 100000 in
theorem c_X1_isForEmptyColumns (l : Launch) (D : va_G) (cI cJ : ClassId) (h_0 : Nat) (r_0 : Nat → Int32) (v1 : Int32) (rv : Int32) (hF : F_X1_isForEmptyColumns r_0 v1 = some rv) : CtI l D [(cI, .int), (cJ, .long)] yX1_isForEmptyColumns wtX1_isForEmptyColumns ({ frames := 1, cells := 0, slots := 0, locals := 21 } : Room) [.ref h_0, .int v1] [(h_0, oX1 r_0)] [(h_0, oX1 r_0)] rv := by
  refine CtZ.of (cc := cX1_isForEmptyColumns) (maxL := 2) (by decide) rfl (Nat.le_of_ble_eq_true rfl) ?_
  intro p e s m args below meth c A H0 Q ls X hS hl kret
  have hCF := X.1
  obtain ⟨⟨hx, hb, hml, hown, hts⟩, hK, hA⟩ := X
  have hl : lv_has ls 2 [(0, .ref h_0), (1, .int v1)] := hl
  have q0 := hts (.fieldLink RX1 27 "Patiencery$Rules" "empty" "I") (List.mem_cons_of_mem _ mw_43)
  have inX1 : ∀ w ∈ u_ws RX1 TX1 9, w ∈ wtX1_isForEmptyColumns := fun w h => List.mem_cons_of_mem _ (inlX1 w h)
  have q2 := hts (.fieldLink RX1 15 "Patiencery$Rules" "ranks" "I") (List.mem_cons_of_mem _ mw_39)
  unfold F_X1_isForEmptyColumns at hF
  refine lv_aload_n hx hb dX1_isForEmptyColumns_0 rfl (lv_at hl 0 rfl) ?_
  refine r_get hx hb hts inX1 hown hK hS 0 5 rfl rfl (by decide) q0 rfl dX1_isForEmptyColumns_1 ?_
  refine lv_if_eq (tgt := 27) hx hb dX1_isForEmptyColumns_4 (by decide) (fun c_1 => ?_) (fun c_1 => ?_)
  · replace hF := ifp hF c_1
    refine lv_iconst (v := (nI 1)) hx hb dX1_isForEmptyColumns_27 (by decide) ?_
    refine lv_goto (tgt := 32) hx hb dX1_isForEmptyColumns_28 (by decide) ?_
    replace hF := zb_e hF
    obtain ⟨h01_2, hF⟩ := hF
    have e9_0 := Option.some.inj hF
    subst e9_0
    exact kret _ _ _ _ h01_2 hS dX1_isForEmptyColumns_32
  · replace hF := ifn hF c_1
    refine lv_aload_n hx hb dX1_isForEmptyColumns_7 rfl (lv_at hl 0 rfl) ?_
    refine r_get hx hb hts inX1 hown hK hS 0 5 rfl rfl (by decide) q0 rfl dX1_isForEmptyColumns_8 ?_
    refine lv_iconst (v := (nI 1)) hx hb dX1_isForEmptyColumns_11 (by decide) ?_
    refine lv_icmp_ne (tgt := 31) hx hb dX1_isForEmptyColumns_12 (by decide) (fun c_3 => ?_) (fun c_3 => ?_)
    · replace hF := ifn hF c_3
      refine lv_iconst (v := (nI 0)) hx hb dX1_isForEmptyColumns_31 (by decide) ?_
      replace hF := zb_e hF
      obtain ⟨h01_4, hF⟩ := hF
      have e9_0 := Option.some.inj hF
      subst e9_0
      exact kret _ _ _ _ h01_4 hS dX1_isForEmptyColumns_32
    · replace hF := ifp hF c_3
      refine lv_aload_n hx hb dX1_isForEmptyColumns_15 rfl (lv_at hl 0 rfl) ?_
      refine lv_iload_n hx hb dX1_isForEmptyColumns_16 rfl (lv_at hl 1 rfl) ?_
      replace hF := cal1_e hF
      obtain ⟨x5, hc6, hF⟩ := hF
      refine kV_i (As := [.int v1]) (rest := []) (wr := []) (w2 := [(h_0, oX1 r_0)]) hCF hK (c_X1_rankOf l D cI cJ h_0 r_0 v1 x5 hc6) (cwV 1 hts (TBL_V mw_261 mw_262 mw_263 mw_12 mw_264) rfl rfl rfl pmX1_rankOf ⟨Nat.le_of_ble_eq_true rfl, Nat.le_of_ble_eq_true rfl⟩) hS hA [0] [] rfl rfl rfl rfl (by decide) rfl rfl rfl hl.1 rfl (Nat.le_of_ble_eq_true rfl) ⟨Nat.zero_le _, Nat.zero_le _⟩ dX1_isForEmptyColumns_17 rfl (fun H locs hS => ?_)
      refine lv_aload_n hx hb dX1_isForEmptyColumns_20 rfl (lv_at hl 0 rfl) ?_
      refine r_get hx hb hts inX1 hown hK hS 0 1 rfl rfl (by decide) q2 rfl dX1_isForEmptyColumns_21 ?_
      refine lv_icmp_ne (tgt := 31) hx hb dX1_isForEmptyColumns_24 (by decide) (fun c_7 => ?_) (fun c_7 => ?_)
      · replace hF := ifn hF c_7
        refine lv_iconst (v := (nI 0)) hx hb dX1_isForEmptyColumns_31 (by decide) ?_
        replace hF := zb_e hF
        obtain ⟨h01_8, hF⟩ := hF
        have e9_0 := Option.some.inj hF
        subst e9_0
        exact kret _ _ _ _ h01_8 hS dX1_isForEmptyColumns_32
      · replace hF := ifp hF c_7
        refine lv_iconst (v := (nI 1)) hx hb dX1_isForEmptyColumns_27 (by decide) ?_
        refine lv_goto (tgt := 32) hx hb dX1_isForEmptyColumns_28 (by decide) ?_
        replace hF := zb_e hF
        obtain ⟨h01_9, hF⟩ := hF
        have e9_0 := Option.some.inj hF
        subst e9_0
        exact kret _ _ _ _ h01_9 hS dX1_isForEmptyColumns_32
set_option maxHeartbeats 4000000 in
set_option maxRecDepth 100000 in
theorem c_X1_cards (l : Launch) (D : va_G) (cI cJ : ClassId) (h_0 : Nat) (r_0 : Nat → Int32) (rv : Int32) (hF : F_X1_cards r_0 = some rv) : CtI l D [(cI, .int), (cJ, .long)] yX1_cards wtX1_cards ({ frames := 0, cells := 0, slots := 0, locals := 0 } : Room) [.ref h_0] [(h_0, oX1 r_0)] [(h_0, oX1 r_0)] rv := by
  refine CtI.of (cc := cX1_cards) (maxL := 1) (by decide) rfl (Nat.le_of_ble_eq_true rfl) ?_
  intro p e s m args below meth c A H0 Q ls X hS hl kret
  have hCF := X.1
  obtain ⟨⟨hx, hb, hml, hown, hts⟩, hK, hA⟩ := X
  have hl : lv_has ls 1 [(0, .ref h_0)] := hl
  have q0 := hts (.fieldLink RX1 9 "Patiencery$Rules" "suits" "I") (List.mem_cons_of_mem _ mw_38)
  have inX1 : ∀ w ∈ u_ws RX1 TX1 9, w ∈ wtX1_cards := fun w h => List.mem_cons_of_mem _ (inlX1 w h)
  have q2 := hts (.fieldLink RX1 15 "Patiencery$Rules" "ranks" "I") (List.mem_cons_of_mem _ mw_39)
  unfold F_X1_cards at hF
  refine lv_aload_n hx hb dX1_cards_0 rfl (lv_at hl 0 rfl) ?_
  refine r_get hx hb hts inX1 hown hK hS 0 0 rfl rfl (by decide) q0 rfl dX1_cards_1 ?_
  refine lv_aload_n hx hb dX1_cards_4 rfl (lv_at hl 0 rfl) ?_
  refine r_get hx hb hts inX1 hown hK hS 0 1 rfl rfl (by decide) q2 rfl dX1_cards_5 ?_
  refine lv_imul hx hb dX1_cards_8 ?_
  have e9_0 := Option.some.inj hF
  subst e9_0
  exact kret _ _ _ _ hS dX1_cards_9
set_option maxHeartbeats 4000000 in
set_option maxRecDepth 100000 in
theorem c_X5_codeOf (l : Launch) (D : va_G) (cI cJ : ClassId) (v0 : Int32) (v1 : Int32) (v2 : Int32) (rv : Int32) (hF : F_X5_codeOf v0 v1 v2 = some rv) : CtI l D [(cI, .int), (cJ, .long)] yX5_codeOf wtX5_codeOf ({ frames := 0, cells := 0, slots := 0, locals := 0 } : Room) [.int v0, .int v1, .int v2] [] [] rv := by
  refine CtI.of (cc := cX5_codeOf) (maxL := 3) (by decide) rfl (Nat.le_of_ble_eq_true rfl) ?_
  intro p e s m args below meth c A H0 Q ls X hS hl kret
  have hCF := X.1
  obtain ⟨⟨hx, hb, hml, hown, hts⟩, hK, hA⟩ := X
  have hl : lv_has ls 3 [(0, .int v0), (1, .int v1), (2, .int v2)] := hl
  unfold F_X5_codeOf at hF
  refine lv_sipush (v := (nI 1000)) hx hb dX5_codeOf_0 (by decide) ?_
  refine lv_iload_n hx hb dX5_codeOf_3 rfl (lv_at hl 0 rfl) ?_
  refine lv_imul hx hb dX5_codeOf_4 ?_
  refine lv_bipush (v := (nI 100)) hx hb dX5_codeOf_5 (by decide) ?_
  refine lv_iload_n hx hb dX5_codeOf_7 rfl (lv_at hl 1 rfl) ?_
  refine lv_imul hx hb dX5_codeOf_8 ?_
  refine lv_iadd hx hb dX5_codeOf_9 ?_
  refine lv_iload_n hx hb dX5_codeOf_10 rfl (lv_at hl 2 rfl) ?_
  refine lv_iadd hx hb dX5_codeOf_11 ?_
  have e9_0 := Option.some.inj hF
  subst e9_0
  exact kret _ _ _ _ hS dX5_codeOf_12
set_option maxHeartbeats 4000000 in
set_option maxRecDepth 100000 in
theorem c_X5_put (l : Launch) (D : va_G) (cI cJ : ClassId) (h_0 : Nat) (n_0 : Nat) (f_0 : Nat → Int32) (v1 : Int32) (v2 : Int32) (r_f_0 : Nat → Int32) (hF : F_X5_put n_0 f_0 v1 v2 = some r_f_0) : CtV l D [(cI, .int), (cJ, .long)] yX5_put wtX5_put ({ frames := 0, cells := 0, slots := 0, locals := 0 } : Room) [.ref h_0, .int v1, .int v2] [(h_0, eI cI n_0 f_0)] [(h_0, eI cI n_0 r_f_0)] := by
  refine CtV.of (cc := cX5_put) (maxL := 3) (by decide) rfl (Nat.le_of_ble_eq_true rfl) ?_
  intro p e s m args below meth c A H0 Q ls X hS hl kret
  have hCF := X.1
  obtain ⟨⟨hx, hb, hml, hown, hts⟩, hK, hA⟩ := X
  have hl : lv_has ls 3 [(0, .ref h_0), (1, .int v1), (2, .int v2)] := hl
  unfold F_X5_put at hF
  refine lv_iload_n hx hb dX5_put_0 rfl (lv_at hl 1 rfl) ?_
  refine lv_if_lt (tgt := 14) hx hb dX5_put_1 (by decide) (fun c_1 => ?_) (fun c_1 => ?_)
  · replace hF := ifp hF c_1
    have e9_0 := Option.some.inj hF
    subst e9_0
    exact kret _ _ _ _ hS dX5_put_14
  · replace hF := ifn hF c_1
    refine lv_iload_n hx hb dX5_put_4 rfl (lv_at hl 1 rfl) ?_
    refine lv_aload_n hx hb dX5_put_5 rfl (lv_at hl 0 rfl) ?_
    refine r_alenI hx hb hK hS 0 rfl rfl dX5_put_6 ?_
    refine lv_icmp_ge (tgt := 14) hx hb dX5_put_7 (by decide) (fun c_2 => ?_) (fun c_2 => ?_)
    · replace hF := ifp hF c_2
      have e9_0 := Option.some.inj hF
      subst e9_0
      exact kret _ _ _ _ hS dX5_put_14
    · replace hF := ifn hF c_2
      refine lv_aload_n hx hb dX5_put_10 rfl (lv_at hl 0 rfl) ?_
      refine lv_iload_n hx hb dX5_put_11 rfl (lv_at hl 1 rfl) ?_
      refine lv_iload_n hx hb dX5_put_12 rfl (lv_at hl 2 rfl) ?_
      replace hF := wr1_e hF
      obtain ⟨hi4, f_0u3, ef_0u3, hF⟩ := hF
      refine r_iast (w2 := [(h_0, eI cI n_0 f_0u3)]) hx hb hK hS 0 rfl rfl hi4 dX5_put_13 (by rw [ef_0u3]; rfl) (fun H locs hS => ?_)
      have e9_0 := Option.some.inj hF
      subst e9_0
      exact kret _ _ _ _ hS dX5_put_14
set_option maxHeartbeats 4000000 in
set_option maxRecDepth 100000 in
theorem c_J7_fill_53178 (l : Launch) (D : va_G) (cI cJ : ClassId) (h_0 : Nat) (n_0 : Nat) (f_0 : Nat → Int32) (v1 : Int32) (r_f_0 : Nat → Int32) (hF : F_J7_fill_53178 n_0 f_0 v1 = some r_f_0) : CtV l D [(cI, .int), (cJ, .long)] yJ7_fill_53178 wtJ7_fill_53178 ({ frames := 0, cells := 0, slots := 0, locals := 0 } : Room) [.ref h_0, .int v1] [(h_0, eI cI n_0 f_0)] [(h_0, eI cI n_0 r_f_0)] := by
  refine CtV.of (cc := cJ7_fill_53178) (maxL := 4) (by decide) rfl (Nat.le_of_ble_eq_true rfl) ?_
  intro p e s m args below meth c A H0 Q ls X hS hl kret
  have hCF := X.1
  obtain ⟨⟨hx, hb, hml, hown, hts⟩, hK, hA⟩ := X
  have hl : lv_has ls 4 [(0, .ref h_0), (1, .int v1)] := hl
  have S5 : ∀ (K5 : (Nat → Int32) → Int32 → Int32 → Int32 → Option ((Nat → Int32))) (_ : ∀ (f_0 : Nat → Int32) (v1 : Int32) (v2 : Int32) (v3 : Int32) (H : Heap) (locs : List Loc) (ls : Array Slot), HS D A H0 [(h_0, eI cI n_0 f_0)] H locs → lv_has ls 4 [(0, .ref h_0), (1, .int v1), (2, .int v2), (3, .int v3)] → K5 f_0 v1 v2 v3 = some r_f_0 → W p l e ({ frames := 0, cells := 0, slots := 0, locals := 0 } : Room) s m args below meth c H locs 0 0 Q (F0 m 5 ls [])) (f_0 : Nat → Int32) (v1 : Int32) (v2 : Int32) (v3 : Int32) (H : Heap) (locs : List Loc) (ls : Array Slot), HS D A H0 [(h_0, eI cI n_0 f_0)] H locs → lv_has ls 4 [(0, .ref h_0), (1, .int v1), (2, .int v2), (3, .int v3)] → F_J7_fill_53178_s5 n_0 K5 f_0 v1 v2 v3 = some r_f_0 → W p l e ({ frames := 0, cells := 0, slots := 0, locals := 0 } : Room) s m args below meth c H locs 0 0 Q (F0 m 5 ls []) := by
    intro K5 hK5 f_0 v1 v2 v3 H locs ls hS hl hF
    unfold F_J7_fill_53178_s5 at hF
    refine lv_iload_n hx hb dJ7_fill_53178_5 rfl (lv_at hl 2 rfl) ?_
    refine lv_iload_n hx hb dJ7_fill_53178_6 rfl (lv_at hl 3 rfl) ?_
    refine lv_icmp_ge (tgt := 20) hx hb dJ7_fill_53178_7 (by decide) (fun c_1 => ?_) (fun c_1 => ?_)
    · replace hF := ifp hF c_1
      have e9_0 := Option.some.inj hF
      subst e9_0
      exact kret _ _ _ _ hS dJ7_fill_53178_20
    · replace hF := ifn hF c_1
      refine lv_aload_n hx hb dJ7_fill_53178_10 rfl (lv_at hl 0 rfl) ?_
      refine lv_iload_n hx hb dJ7_fill_53178_11 rfl (lv_at hl 2 rfl) ?_
      refine lv_iload_n hx hb dJ7_fill_53178_12 rfl (lv_at hl 1 rfl) ?_
      replace hF := wr1_e hF
      obtain ⟨hi3, f_0u2, ef_0u2, hF⟩ := hF
      refine r_iast (w2 := [(h_0, eI cI n_0 f_0u2)]) hx hb hK hS 0 rfl rfl hi3 dJ7_fill_53178_13 (by rw [ef_0u2]; rfl) (fun H locs hS => ?_)
      refine lv_iinc (v := v2 + (nI 1)) (lv' := [(2, .int (v2 + (nI 1))), (0, .ref h_0), (1, .int v1), (3, .int v3)]) hx hb dJ7_fill_53178_14 hl (k := 2) rfl rfl (by decide) rfl (fun ls hl => ?_)
      refine lv_goto (tgt := 5) hx hb dJ7_fill_53178_17 (by decide) ?_
      exact hK5 f_0u2 v1 (v2 + (nI 1)) v3 _ _ _ hS (lv_sub hl [1, 2, 0, 3] rfl) hF
  have L5 : ∀  (n : Nat) (f_0 : Nat → Int32) (v1 : Int32) (v2 : Int32) (v3 : Int32) (H : Heap) (locs : List Loc) (ls : Array Slot), HS D A H0 [(h_0, eI cI n_0 f_0)] H locs → lv_has ls 4 [(0, .ref h_0), (1, .int v1), (2, .int v2), (3, .int v3)] → F_J7_fill_53178_L5 n_0  n f_0 v1 v2 v3 = some r_f_0 → W p l e ({ frames := 0, cells := 0, slots := 0, locals := 0 } : Room) s m args below meth c H locs 0 0 Q (F0 m 5 ls []) := by
    intro  n
    induction n with
    | zero => intro f_0 v1 v2 v3 H locs ls hS hl hF; exact nomatch (show (none : Option ((Nat → Int32))) = some _ from hF)
    | succ n ih => intro f_0 v1 v2 v3 H locs ls hS hl hF; exact S5  _ ih f_0 v1 v2 v3 H locs ls hS hl hF
  unfold F_J7_fill_53178 at hF
  refine lv_iconst (v := (nI 0)) hx hb dJ7_fill_53178_0 (by decide) ?_
  refine lv_istore_n (lv' := [(2, .int (nI 0)), (0, .ref h_0), (1, .int v1)]) hx hb dJ7_fill_53178_1 rfl hl (by decide) rfl (fun ls hl => ?_)
  refine lv_aload_n hx hb dJ7_fill_53178_2 rfl (lv_at hl 1 rfl) ?_
  refine r_alenI hx hb hK hS 0 rfl rfl dJ7_fill_53178_3 ?_
  refine lv_istore_n (lv' := [(3, .int (nI n_0)), (2, .int (nI 0)), (0, .ref h_0), (1, .int v1)]) hx hb dJ7_fill_53178_4 rfl hl (by decide) rfl (fun ls hl => ?_)
  exact L5 FU f_0 v1 (nI 0) (nI n_0) _ _ _ hS (lv_sub hl [2, 3, 1, 0] rfl) hF
set_option maxHeartbeats 4000000 in
set_option maxRecDepth 100000 in
theorem c_X0_nextOf (l : Launch) (D : va_G) (cI cJ : ClassId) (v0 : Int32) (v1 : Int32) (rv : Int32) (hF : F_X0_nextOf v0 v1 = some rv) : CtI l D [(cI, .int), (cJ, .long)] yX0_nextOf wtX0_nextOf ({ frames := 0, cells := 0, slots := 0, locals := 0 } : Room) [.int v0, .int v1] [] [] rv := by
  refine CtI.of (cc := cX0_nextOf) (maxL := 3) (by decide) rfl (Nat.le_of_ble_eq_true rfl) ?_
  intro p e s m args below meth c A H0 Q ls X hS hl kret
  have hCF := X.1
  obtain ⟨⟨hx, hb, hml, hown, hts⟩, hK, hA⟩ := X
  have hl : lv_has ls 3 [(0, .int v0), (1, .int v1)] := hl
  have q0 := hts (.constant RX0 44 (2147483647)) (List.mem_cons_of_mem _ mw_112)
  have q1 := hts (.constant RX0 43 (1103515245)) (List.mem_cons_of_mem _ mw_111)
  have q2 := hts (.constant RX0 41 (214013)) (List.mem_cons_of_mem _ mw_109)
  have q3 := hts (.constant RX0 42 (2531011)) (List.mem_cons_of_mem _ mw_110)
  have B22 : ∀ (s0 : Int32) (H : Heap) (locs : List Loc) (ls : Array Slot), HS D A H0 [] H locs → lv_has ls 3 [] → F_X0_nextOf_b22   s0 = some rv → W p l e ({ frames := 0, cells := 0, slots := 0, locals := 0 } : Room) s m args below meth c H locs 0 0 Q (F0 m 22 ls [.int s0]) := by
    intro s0 H locs ls hS hl hF
    unfold F_X0_nextOf_b22 at hF
    refine lv_istore_n (lv' := [(2, .int s0)]) hx hb dX0_nextOf_22 rfl hl (by decide) rfl (fun ls hl => ?_)
    refine lv_iload_n hx hb dX0_nextOf_23 rfl (lv_at hl 0 rfl) ?_
    refine lv_ldc (v := (nI 2147483647)) hx hb hown q0 dX0_nextOf_24 ?_
    refine lv_iand hx hb dX0_nextOf_26 ?_
    have e9_0 := Option.some.inj hF
    subst e9_0
    exact kret _ _ _ _ hS dX0_nextOf_27
  unfold F_X0_nextOf at hF
  refine lv_iload_n hx hb dX0_nextOf_0 rfl (lv_at hl 0 rfl) ?_
  refine lv_if_ne (tgt := 14) hx hb dX0_nextOf_1 (by decide) (fun c_1 => ?_) (fun c_1 => ?_)
  · replace hF := ifn hF c_1
    refine lv_iload_n hx hb dX0_nextOf_14 rfl (lv_at hl 1 rfl) ?_
    refine lv_ldc (v := (nI 1103515245)) hx hb hown q1 dX0_nextOf_15 ?_
    refine lv_imul hx hb dX0_nextOf_17 ?_
    refine lv_sipush (v := (nI 12345)) hx hb dX0_nextOf_18 (by decide) ?_
    refine lv_iadd hx hb dX0_nextOf_21 ?_
    exact B22 ((v1 * (nI 1103515245)) + (nI 12345)) _ _ _ hS (lv_sub hl [] rfl) hF
  · replace hF := ifp hF c_1
    refine lv_iload_n hx hb dX0_nextOf_4 rfl (lv_at hl 1 rfl) ?_
    refine lv_ldc (v := (nI 214013)) hx hb hown q2 dX0_nextOf_5 ?_
    refine lv_imul hx hb dX0_nextOf_7 ?_
    refine lv_ldc (v := (nI 2531011)) hx hb hown q3 dX0_nextOf_8 ?_
    refine lv_iadd hx hb dX0_nextOf_10 ?_
    refine lv_goto (tgt := 22) hx hb dX0_nextOf_11 (by decide) ?_
    exact B22 ((v1 * (nI 214013)) + (nI 2531011)) _ _ _ hS (lv_sub hl [] rfl) hF
set_option maxHeartbeats 4000000 in
set_option maxRecDepth 100000 in
theorem c_X0_draw (l : Launch) (D : va_G) (cI cJ : ClassId) (h_0 h_0_row h_0_taken : Nat) (D_0 : Nat → Nat → Int32) (v1 : Int32) (v2 : Int32) (v3 : Int32) (r_D_0 : Nat → Nat → Int32) (hF : F_X0_draw D_0 v1 v2 v3 = some r_D_0) : CtV l D [(cI, .int), (cJ, .long)] yX0_draw wtX0_draw ({ frames := 1, cells := 0, slots := 0, locals := 22 } : Room) [.ref h_0, .int v1, .int v2, .int v3] [(h_0, oX0 h_0_row h_0_taken), (h_0_row, eI cI 16 (D_0 0)), (h_0_taken, eI cI 16 (D_0 1))] [(h_0, oX0 h_0_row h_0_taken), (h_0_row, eI cI 16 (r_D_0 0)), (h_0_taken, eI cI 16 (r_D_0 1))] := by
  refine CtV.of (cc := cX0_draw) (maxL := 7) (by decide) rfl (Nat.le_of_ble_eq_true rfl) ?_
  intro p e s m args below meth c A H0 Q ls X hS hl kret
  have hCF := X.1
  obtain ⟨⟨hx, hb, hml, hown, hts⟩, hK, hA⟩ := X
  have hl : lv_has ls 7 [(0, .ref h_0), (1, .int v1), (2, .int v2), (3, .int v3)] := hl
  have q0 := hts (.constant RX0 27 (65536)) (List.mem_cons_of_mem _ mw_104)
  have q1 := hts (.constant RX0 28 (32768)) (List.mem_cons_of_mem _ mw_105)
  have q2 := hts (.fieldLink RX0 15 "Patiencery$Drawing" "taken" "[I") (List.mem_cons_of_mem _ mw_88)
  have inX0 : ∀ w ∈ u_ws RX0 TX0 2, w ∈ wtX0_draw := fun w h => List.mem_cons_of_mem _ (inlX0 w h)
  have q4 := hts (.fieldLink RX0 9 "Patiencery$Drawing" "row" "[I") (List.mem_cons_of_mem _ mw_87)
  have q5 := hts (.methodLink RX0 18 Lib.Math.min.name) (List.mem_cons_of_mem _ mw_101)
  have q6 := hts (.static Lib.Math.min.name) (List.mem_cons_of_mem _ mw_102)
  have q7 := hts (.initialized "java/lang/Math") (List.mem_cons_of_mem _ mw_65)
  have q8 := hts (.code Lib.Math.min.name Lib.Math.min.code 2 (some .int)) (List.mem_cons_of_mem _ mw_103)
  have S39 : ∀ (K39 : (Nat → Nat → Int32) → Int32 → Int32 → Int32 → Int32 → Option ((Nat → Nat → Int32))) (_ : ∀ (D_0 : Nat → Nat → Int32) (v1 : Int32) (v3 : Int32) (v4 : Int32) (v5 : Int32) (H : Heap) (locs : List Loc) (ls : Array Slot), HS D A H0 [(h_0, oX0 h_0_row h_0_taken), (h_0_row, eI cI 16 (D_0 0)), (h_0_taken, eI cI 16 (D_0 1))] H locs → lv_has ls 7 [(0, .ref h_0), (1, .int v1), (3, .int v3), (4, .int v4), (5, .int v5)] → K39 D_0 v1 v3 v4 v5 = some r_D_0 → W p l e ({ frames := 1, cells := 0, slots := 0, locals := 22 } : Room) s m args below meth c H locs 0 0 Q (F0 m 39 ls [])) (D_0 : Nat → Nat → Int32) (v1 : Int32) (v3 : Int32) (v4 : Int32) (v5 : Int32) (H : Heap) (locs : List Loc) (ls : Array Slot), HS D A H0 [(h_0, oX0 h_0_row h_0_taken), (h_0_row, eI cI 16 (D_0 0)), (h_0_taken, eI cI 16 (D_0 1))] H locs → lv_has ls 7 [(0, .ref h_0), (1, .int v1), (3, .int v3), (4, .int v4), (5, .int v5)] → F_X0_draw_s39  K39 D_0 v1 v3 v4 v5 = some r_D_0 → W p l e ({ frames := 1, cells := 0, slots := 0, locals := 22 } : Room) s m args below meth c H locs 0 0 Q (F0 m 39 ls []) := by
    intro K39 hK39 D_0 v1 v3 v4 v5 H locs ls hS hl hF
    unfold F_X0_draw_s39 at hF
    refine lv_iload hx hb dX0_draw_39 (lv_at hl 4 rfl) ?_
    refine lv_if_le (tgt := 111) hx hb dX0_draw_41 (by decide) (fun c_1 => ?_) (fun c_1 => ?_)
    · replace hF := ifp hF c_1
      have e9_0 := Option.some.inj hF
      subst e9_0
      exact kret _ _ _ _ hS dX0_draw_111
    · replace hF := ifn hF c_1
      refine lv_iload_n hx hb dX0_draw_44 rfl (lv_at hl 1 rfl) ?_
      refine lv_iload hx hb dX0_draw_45 (lv_at hl 3 rfl) ?_
      replace hF := cal1_e hF
      obtain ⟨x2, hc3, hF⟩ := hF
      refine kS_i (As := [.int v1, .int v4]) (rest := []) (wr := [(h_0, oX0 h_0_row h_0_taken), (h_0_row, eI cI 16 (D_0 0)), (h_0_taken, eI cI 16 (D_0 1))]) (w2 := [(h_0, oX0 h_0_row h_0_taken), (h_0_row, eI cI 16 (D_0 0)), (h_0_taken, eI cI 16 (D_0 1))]) hCF hK (c_X0_nextOf l D cI cJ v1 v4 x2 hc3) (va_cwS 2 hts (TBL_S mw_106 mw_107 mw_29 mw_108) rfl rfl rfl pmX0_nextOf.2 ⟨Nat.le_of_ble_eq_true rfl, Nat.le_of_ble_eq_true rfl⟩) hS hA [] [0, 1, 2] rfl rfl rfl rfl (by decide) rfl hl.1 rfl (Nat.le_of_ble_eq_true rfl) ⟨Nat.zero_le _, Nat.zero_le _⟩ dX0_draw_47 rfl (fun H locs hS => ?_)
      refine lv_istore (lv' := [(4, .int x2), (0, .ref h_0), (1, .int v1), (3, .int v3), (5, .int v5)]) hx hb dX0_draw_50 hl (by decide) rfl (fun ls hl => ?_)
      refine lv_iload hx hb dX0_draw_52 (lv_at hl 0 rfl) ?_
      refine lv_ldc (v := (nI 65536)) hx hb hown q0 dX0_draw_54 ?_
      replace hF := nz_e hF
      obtain ⟨hne4, hF⟩ := hF
      refine lv_idiv hx hb dX0_draw_56 hne4 ?_
      refine lv_ldc (v := (nI 32768)) hx hb hown q1 dX0_draw_57 ?_
      replace hF := nz_e hF
      obtain ⟨hne5, hF⟩ := hF
      refine lv_irem hx hb dX0_draw_59 hne5 ?_
      refine lv_iload hx hb dX0_draw_60 (lv_at hl 4 rfl) ?_
      replace hF := nz_e hF
      obtain ⟨hne6, hF⟩ := hF
      refine lv_irem hx hb dX0_draw_62 hne6 ?_
      refine lv_istore (lv' := [(6, .int (((x2 / (nI 65536)) - (x2 / (nI 65536)) / (nI 32768) * (nI 32768)) - ((x2 / (nI 65536)) - (x2 / (nI 65536)) / (nI 32768) * (nI 32768)) / v5 * v5)), (4, .int x2), (0, .ref h_0), (1, .int v1), (3, .int v3), (5, .int v5)]) hx hb dX0_draw_63 hl (by decide) rfl (fun ls hl => ?_)
      refine lv_aload_n hx hb dX0_draw_65 rfl (lv_at hl 2 rfl) ?_
      refine r_get hx hb hts inX0 hown hK hS 0 1 rfl rfl (by decide) q2 rfl dX0_draw_66 ?_
      refine lv_iload_n hx hb dX0_draw_69 rfl (lv_at hl 4 rfl) ?_
      refine lv_iload hx hb dX0_draw_70 (lv_at hl 5 rfl) ?_
      refine lv_isub hx hb dX0_draw_72 ?_
      refine lv_aload_n hx hb dX0_draw_73 rfl (lv_at hl 2 rfl) ?_
      refine r_get hx hb hts inX0 hown hK hS 0 0 rfl rfl (by decide) q4 rfl dX0_draw_74 ?_
      refine lv_iload hx hb dX0_draw_77 (lv_at hl 0 rfl) ?_
      replace hF := cal1_e hF
      obtain ⟨x7, hc8, hF⟩ := hF
      refine kN_i (As := [.ref h_0_row, .int (((x2 / (nI 65536)) - (x2 / (nI 65536)) / (nI 32768) * (nI 32768)) - ((x2 / (nI 65536)) - (x2 / (nI 65536)) / (nI 32768) * (nI 32768)) / v5 * v5)]) (rest := [.int (v3 - v5), .ref h_0_taken]) (wr := [(h_0, oX0 h_0_row h_0_taken), (h_0_taken, eI cI 16 (D_0 1))]) (w2 := [(h_0, oX0 h_0_row h_0_taken), (h_0_taken, eI cI 16 (D_0 1)), (h_0_row, eI cI 16 (D_0 0))]) hCF hK (c_X5_at l D cI cJ h_0_row 16 (D_0 0) (((x2 / (nI 65536)) - (x2 / (nI 65536)) / (nI 32768) * (nI 32768)) - ((x2 / (nI 65536)) - (x2 / (nI 65536)) / (nI 32768) * (nI 32768)) / v5 * v5) x7 hc8) (cwN 2 hK hts (TBL_C mw_114) rfl rfl rfl (host := RX5) (List.mem_of_getElem? (i := 6) rfl) (List.mem_cons_of_mem _ mw_2) (List.mem_cons_of_mem _ mw_113) pmX5_at.2 ⟨Nat.le_of_ble_eq_true rfl, Nat.le_of_ble_eq_true rfl⟩) hS hA [1] [0, 2] rfl rfl rfl rfl (by decide) rfl hl.1 rfl (Nat.le_of_ble_eq_true rfl) ⟨Nat.zero_le _, Nat.zero_le _⟩ dX0_draw_79 rfl (fun H locs hS => ?_)
      replace hF := cal1_e hF
      obtain ⟨f9, hc10, hF⟩ := hF
      replace hF := bnd_e hF
      obtain ⟨D_0u11, eD_0u11, hF⟩ := hF
      refine kN_v (As := [.ref h_0_taken, .int (v3 - v5), .int x7]) (rest := []) (wr := [(h_0, oX0 h_0_row h_0_taken), (h_0_row, eI cI 16 (D_0 0))]) (w2 := [(h_0, oX0 h_0_row h_0_taken), (h_0_row, eI cI 16 (D_0u11 0)), (h_0_taken, eI cI 16 (D_0u11 1))]) hCF hK (c_X5_put l D cI cJ h_0_taken 16 (D_0 1) (v3 - v5) x7 f9 hc10) (cwN 3 hK hts (TBL_C mw_116) rfl rfl rfl (host := RX5) (List.mem_of_getElem? (i := 7) rfl) (List.mem_cons_of_mem _ mw_2) (List.mem_cons_of_mem _ mw_115) pmX5_put.2 ⟨Nat.le_of_ble_eq_true rfl, Nat.le_of_ble_eq_true rfl⟩) hS hA [1] [0, 2] rfl rfl rfl rfl (by decide) rfl hl.1 rfl (Nat.le_of_ble_eq_true rfl) ⟨Nat.zero_le _, Nat.zero_le _⟩ dX0_draw_82 (by rw [eD_0u11]; rfl) (fun H locs hS => ?_)
      refine lv_aload_n hx hb dX0_draw_85 rfl (lv_at hl 2 rfl) ?_
      refine r_get hx hb hts inX0 hown hK hS 0 0 rfl rfl (by decide) q4 rfl dX0_draw_86 ?_
      refine lv_iload hx hb dX0_draw_89 (lv_at hl 0 rfl) ?_
      refine lv_aload_n hx hb dX0_draw_91 rfl (lv_at hl 2 rfl) ?_
      refine r_get hx hb hts inX0 hown hK hS 0 0 rfl rfl (by decide) q4 rfl dX0_draw_92 ?_
      refine lv_iload hx hb dX0_draw_95 (lv_at hl 5 rfl) ?_
      refine lv_iconst (v := (nI 1)) hx hb dX0_draw_97 (by decide) ?_
      refine lv_isub hx hb dX0_draw_98 ?_
      replace hF := cal1_e hF
      obtain ⟨x12, hc13, hF⟩ := hF
      refine kN_i (As := [.ref h_0_row, .int (v5 - (nI 1))]) (rest := [.int (((x2 / (nI 65536)) - (x2 / (nI 65536)) / (nI 32768) * (nI 32768)) - ((x2 / (nI 65536)) - (x2 / (nI 65536)) / (nI 32768) * (nI 32768)) / v5 * v5), .ref h_0_row]) (wr := [(h_0, oX0 h_0_row h_0_taken), (h_0_taken, eI cI 16 (D_0u11 1))]) (w2 := [(h_0, oX0 h_0_row h_0_taken), (h_0_taken, eI cI 16 (D_0u11 1)), (h_0_row, eI cI 16 (D_0u11 0))]) hCF hK (c_X5_at l D cI cJ h_0_row 16 (D_0u11 0) (v5 - (nI 1)) x12 hc13) (cwN 2 hK hts (TBL_C mw_114) rfl rfl rfl (host := RX5) (List.mem_of_getElem? (i := 6) rfl) (List.mem_cons_of_mem _ mw_2) (List.mem_cons_of_mem _ mw_113) pmX5_at.2 ⟨Nat.le_of_ble_eq_true rfl, Nat.le_of_ble_eq_true rfl⟩) hS hA [1] [0, 2] rfl rfl rfl rfl (by decide) rfl hl.1 rfl (Nat.le_of_ble_eq_true rfl) ⟨Nat.zero_le _, Nat.zero_le _⟩ dX0_draw_99 rfl (fun H locs hS => ?_)
      replace hF := cal1_e hF
      obtain ⟨f14, hc15, hF⟩ := hF
      replace hF := bnd_e hF
      obtain ⟨D_0u16, eD_0u16, hF⟩ := hF
      refine kN_v (As := [.ref h_0_row, .int (((x2 / (nI 65536)) - (x2 / (nI 65536)) / (nI 32768) * (nI 32768)) - ((x2 / (nI 65536)) - (x2 / (nI 65536)) / (nI 32768) * (nI 32768)) / v5 * v5), .int x12]) (rest := []) (wr := [(h_0, oX0 h_0_row h_0_taken), (h_0_taken, eI cI 16 (D_0u11 1))]) (w2 := [(h_0, oX0 h_0_row h_0_taken), (h_0_taken, eI cI 16 (D_0u16 1)), (h_0_row, eI cI 16 (D_0u16 0))]) hCF hK (c_X5_put l D cI cJ h_0_row 16 (D_0u11 0) (((x2 / (nI 65536)) - (x2 / (nI 65536)) / (nI 32768) * (nI 32768)) - ((x2 / (nI 65536)) - (x2 / (nI 65536)) / (nI 32768) * (nI 32768)) / v5 * v5) x12 f14 hc15) (cwN 3 hK hts (TBL_C mw_116) rfl rfl rfl (host := RX5) (List.mem_of_getElem? (i := 7) rfl) (List.mem_cons_of_mem _ mw_2) (List.mem_cons_of_mem _ mw_115) pmX5_put.2 ⟨Nat.le_of_ble_eq_true rfl, Nat.le_of_ble_eq_true rfl⟩) hS hA [2] [0, 1] rfl rfl rfl rfl (by decide) rfl hl.1 rfl (Nat.le_of_ble_eq_true rfl) ⟨Nat.zero_le _, Nat.zero_le _⟩ dX0_draw_102 (by rw [eD_0u16]; rfl) (fun H locs hS => ?_)
      refine lv_iinc (v := v5 + (-1)) (lv' := [(5, .int (v5 + (-1))), (6, .int (((x2 / (nI 65536)) - (x2 / (nI 65536)) / (nI 32768) * (nI 32768)) - ((x2 / (nI 65536)) - (x2 / (nI 65536)) / (nI 32768) * (nI 32768)) / v5 * v5)), (4, .int x2), (0, .ref h_0), (1, .int v1), (3, .int v3)]) hx hb dX0_draw_105 hl (k := 5) rfl rfl (by decide) rfl (fun ls hl => ?_)
      refine lv_goto (tgt := 39) hx hb dX0_draw_108 (by decide) ?_
      exact hK39 D_0u16 v1 v3 x2 (v5 + (-1)) _ _ _ (hS.sub [0, 2, 1] rfl rfl) (lv_sub hl [3, 4, 5, 2, 0] rfl) hF
  have L39 : ∀  (n : Nat) (D_0 : Nat → Nat → Int32) (v1 : Int32) (v3 : Int32) (v4 : Int32) (v5 : Int32) (H : Heap) (locs : List Loc) (ls : Array Slot), HS D A H0 [(h_0, oX0 h_0_row h_0_taken), (h_0_row, eI cI 16 (D_0 0)), (h_0_taken, eI cI 16 (D_0 1))] H locs → lv_has ls 7 [(0, .ref h_0), (1, .int v1), (3, .int v3), (4, .int v4), (5, .int v5)] → F_X0_draw_L39   n D_0 v1 v3 v4 v5 = some r_D_0 → W p l e ({ frames := 1, cells := 0, slots := 0, locals := 22 } : Room) s m args below meth c H locs 0 0 Q (F0 m 39 ls []) := by
    intro  n
    induction n with
    | zero => intro D_0 v1 v3 v4 v5 H locs ls hS hl hF; exact nomatch (show (none : Option ((Nat → Nat → Int32))) = some _ from hF)
    | succ n ih => intro D_0 v1 v3 v4 v5 H locs ls hS hl hF; exact S39  _ ih D_0 v1 v3 v4 v5 H locs ls hS hl hF
  have B28 : ∀ (D_0 : Nat → Nat → Int32) (v1 : Int32) (v2 : Int32) (v3 : Int32) (H : Heap) (locs : List Loc) (ls : Array Slot), HS D A H0 [(h_0, oX0 h_0_row h_0_taken), (h_0_row, eI cI 16 (D_0 0)), (h_0_taken, eI cI 16 (D_0 1))] H locs → lv_has ls 7 [(0, .ref h_0), (1, .int v1), (2, .int v2), (3, .int v3)] → F_X0_draw_b28   D_0 v1 v2 v3 = some r_D_0 → W p l e ({ frames := 1, cells := 0, slots := 0, locals := 22 } : Room) s m args below meth c H locs 0 0 Q (F0 m 28 ls []) := by
    intro D_0 v1 v2 v3 H locs ls hS hl hF
    unfold F_X0_draw_b28 at hF
    refine lv_iload_n hx hb dX0_draw_28 rfl (lv_at hl 2 rfl) ?_
    refine lv_istore (lv' := [(4, .int v2), (0, .ref h_0), (1, .int v1), (2, .int v2), (3, .int v3)]) hx hb dX0_draw_29 hl (by decide) rfl (fun ls hl => ?_)
    refine lv_iload_n hx hb dX0_draw_31 rfl (lv_at hl 4 rfl) ?_
    refine lv_bipush (v := (nI 16)) hx hb dX0_draw_32 (by decide) ?_
    refine va_mmin hx hb (hml.trans hl.1.symm) hown q5 q6 q7 q8 (by decide) (by decide) (Nat.zero_le _) (Nat.zero_le _) dX0_draw_34 ?_
    refine lv_istore (lv' := [(5, .int (if (nI 16) < v3 then (nI 16) else v3)), (4, .int v2), (0, .ref h_0), (1, .int v1), (2, .int v2), (3, .int v3)]) hx hb dX0_draw_37 hl (by decide) rfl (fun ls hl => ?_)
    exact L39 FU D_0 v1 v3 v2 (if (nI 16) < v3 then (nI 16) else v3) _ _ _ hS (lv_sub hl [2, 3, 5, 1, 0] rfl) hF
  have S3 : ∀ (K3 : (Nat → Nat → Int32) → Int32 → Int32 → Int32 → Int32 → Option ((Nat → Nat → Int32))) (_ : ∀ (D_0 : Nat → Nat → Int32) (v1 : Int32) (v2 : Int32) (v3 : Int32) (v4 : Int32) (H : Heap) (locs : List Loc) (ls : Array Slot), HS D A H0 [(h_0, oX0 h_0_row h_0_taken), (h_0_row, eI cI 16 (D_0 0)), (h_0_taken, eI cI 16 (D_0 1))] H locs → lv_has ls 7 [(0, .ref h_0), (1, .int v1), (2, .int v2), (3, .int v3), (4, .int v4)] → K3 D_0 v1 v2 v3 v4 = some r_D_0 → W p l e ({ frames := 1, cells := 0, slots := 0, locals := 22 } : Room) s m args below meth c H locs 0 0 Q (F0 m 3 ls [])) (D_0 : Nat → Nat → Int32) (v1 : Int32) (v2 : Int32) (v3 : Int32) (v4 : Int32) (H : Heap) (locs : List Loc) (ls : Array Slot), HS D A H0 [(h_0, oX0 h_0_row h_0_taken), (h_0_row, eI cI 16 (D_0 0)), (h_0_taken, eI cI 16 (D_0 1))] H locs → lv_has ls 7 [(0, .ref h_0), (1, .int v1), (2, .int v2), (3, .int v3), (4, .int v4)] → F_X0_draw_s3  K3 D_0 v1 v2 v3 v4 = some r_D_0 → W p l e ({ frames := 1, cells := 0, slots := 0, locals := 22 } : Room) s m args below meth c H locs 0 0 Q (F0 m 3 ls []) := by
    intro K3 hK3 D_0 v1 v2 v3 v4 H locs ls hS hl hF
    unfold F_X0_draw_s3 at hF
    refine lv_iload hx hb dX0_draw_3 (lv_at hl 4 rfl) ?_
    refine lv_aload_n hx hb dX0_draw_5 rfl (lv_at hl 0 rfl) ?_
    refine r_get hx hb hts inX0 hown hK hS 0 0 rfl rfl (by decide) q4 rfl dX0_draw_6 ?_
    refine r_alenI hx hb hK hS 1 rfl rfl dX0_draw_9 ?_
    refine lv_icmp_ge (tgt := 28) hx hb dX0_draw_10 (by decide) (fun c_17 => ?_) (fun c_17 => ?_)
    · replace hF := ifp hF c_17
      exact B28 D_0 v1 v2 v3 _ _ _ hS (lv_sub hl [0, 1, 2, 3] rfl) hF
    · replace hF := ifn hF c_17
      refine lv_aload_n hx hb dX0_draw_13 rfl (lv_at hl 0 rfl) ?_
      refine r_get hx hb hts inX0 hown hK hS 0 0 rfl rfl (by decide) q4 rfl dX0_draw_14 ?_
      refine lv_iload hx hb dX0_draw_17 (lv_at hl 4 rfl) ?_
      refine lv_iload hx hb dX0_draw_19 (lv_at hl 4 rfl) ?_
      replace hF := wrA_e hF
      obtain ⟨hi19, D_0u18, eD_0u18, hF⟩ := hF
      refine r_iast (w2 := [(h_0, oX0 h_0_row h_0_taken), (h_0_row, eI cI 16 (D_0u18 0)), (h_0_taken, eI cI 16 (D_0u18 1))]) hx hb hK hS 1 rfl rfl hi19 dX0_draw_21 (by rw [eD_0u18]; rfl) (fun H locs hS => ?_)
      refine lv_iinc (v := v4 + (nI 1)) (lv' := [(4, .int (v4 + (nI 1))), (0, .ref h_0), (1, .int v1), (2, .int v2), (3, .int v3)]) hx hb dX0_draw_22 hl (k := 4) rfl rfl (by decide) rfl (fun ls hl => ?_)
      refine lv_goto (tgt := 3) hx hb dX0_draw_25 (by decide) ?_
      exact hK3 D_0u18 v1 v2 v3 (v4 + (nI 1)) _ _ _ hS (lv_sub hl [1, 2, 3, 4, 0] rfl) hF
  have L3 : ∀  (n : Nat) (D_0 : Nat → Nat → Int32) (v1 : Int32) (v2 : Int32) (v3 : Int32) (v4 : Int32) (H : Heap) (locs : List Loc) (ls : Array Slot), HS D A H0 [(h_0, oX0 h_0_row h_0_taken), (h_0_row, eI cI 16 (D_0 0)), (h_0_taken, eI cI 16 (D_0 1))] H locs → lv_has ls 7 [(0, .ref h_0), (1, .int v1), (2, .int v2), (3, .int v3), (4, .int v4)] → F_X0_draw_L3   n D_0 v1 v2 v3 v4 = some r_D_0 → W p l e ({ frames := 1, cells := 0, slots := 0, locals := 22 } : Room) s m args below meth c H locs 0 0 Q (F0 m 3 ls []) := by
    intro  n
    induction n with
    | zero => intro D_0 v1 v2 v3 v4 H locs ls hS hl hF; exact nomatch (show (none : Option ((Nat → Nat → Int32))) = some _ from hF)
    | succ n ih => intro D_0 v1 v2 v3 v4 H locs ls hS hl hF; exact S3  _ ih D_0 v1 v2 v3 v4 H locs ls hS hl hF
  unfold F_X0_draw at hF
  refine lv_iconst (v := (nI 0)) hx hb dX0_draw_0 (by decide) ?_
  refine lv_istore (lv' := [(4, .int (nI 0)), (0, .ref h_0), (1, .int v1), (2, .int v2), (3, .int v3)]) hx hb dX0_draw_1 hl (by decide) rfl (fun ls hl => ?_)
  exact L3 FU D_0 v1 v2 v3 (nI 0) _ _ _ hS (lv_sub hl [1, 2, 3, 4, 0] rfl) hF
set_option maxHeartbeats 4000000 in
set_option maxRecDepth 100000 in
theorem c_X1_inColumns (l : Launch) (D : va_G) (cI cJ : ClassId) (h_0 : Nat) (r_0 : Nat → Int32) (rv : Int32) (hF : F_X1_inColumns r_0 = some rv) : CtI l D [(cI, .int), (cJ, .long)] yX1_inColumns wtX1_inColumns ({ frames := 1, cells := 0, slots := 0, locals := 20 } : Room) [.ref h_0] [(h_0, oX1 r_0)] [(h_0, oX1 r_0)] rv := by
  refine CtI.of (cc := cX1_inColumns) (maxL := 1) (by decide) rfl (Nat.le_of_ble_eq_true rfl) ?_
  intro p e s m args below meth c A H0 Q ls X hS hl kret
  have hCF := X.1
  obtain ⟨⟨hx, hb, hml, hown, hts⟩, hK, hA⟩ := X
  have hl : lv_has ls 1 [(0, .ref h_0)] := hl
  have q0 := hts (.fieldLink RX1 30 "Patiencery$Rules" "inStock" "I") (List.mem_cons_of_mem _ mw_44)
  have inX1 : ∀ w ∈ u_ws RX1 TX1 9, w ∈ wtX1_inColumns := fun w h => List.mem_cons_of_mem _ (inlX1 w h)
  unfold F_X1_inColumns at hF
  refine lv_aload_n hx hb dX1_inColumns_0 rfl (lv_at hl 0 rfl) ?_
  replace hF := cal1_e hF
  obtain ⟨x1, hc2, hF⟩ := hF
  refine kV_i (As := []) (rest := []) (wr := []) (w2 := [(h_0, oX1 r_0)]) hCF hK (c_X1_cards l D cI cJ h_0 r_0 x1 hc2) (cwV 0 hts (TBL_V mw_131 mw_94 mw_95 mw_12 mw_96) rfl rfl rfl pmX1_cards ⟨Nat.le_of_ble_eq_true rfl, Nat.le_of_ble_eq_true rfl⟩) hS hA [0] [] rfl rfl rfl rfl (by decide) rfl rfl rfl hl.1 rfl (Nat.le_of_ble_eq_true rfl) ⟨Nat.zero_le _, Nat.zero_le _⟩ dX1_inColumns_1 rfl (fun H locs hS => ?_)
  refine lv_aload_n hx hb dX1_inColumns_4 rfl (lv_at hl 0 rfl) ?_
  refine r_get hx hb hts inX1 hown hK hS 0 6 rfl rfl (by decide) q0 rfl dX1_inColumns_5 ?_
  refine lv_isub hx hb dX1_inColumns_8 ?_
  have e9_0 := Option.some.inj hF
  subst e9_0
  exact kret _ _ _ _ hS dX1_inColumns_9
set_option maxHeartbeats 4000000 in
set_option maxRecDepth 100000 in
theorem c_X0_takenAt (l : Launch) (D : va_G) (cI cJ : ClassId) (h_0 h_0_row h_0_taken : Nat) (D_0 : Nat → Nat → Int32) (v1 : Int32) (rv : Int32) (hF : F_X0_takenAt D_0 v1 = some rv) : CtI l D [(cI, .int), (cJ, .long)] yX0_takenAt wtX0_takenAt ({ frames := 1, cells := 0, slots := 0, locals := 21 } : Room) [.ref h_0, .int v1] [(h_0, oX0 h_0_row h_0_taken), (h_0_row, eI cI 16 (D_0 0)), (h_0_taken, eI cI 16 (D_0 1))] [(h_0, oX0 h_0_row h_0_taken), (h_0_row, eI cI 16 (D_0 0)), (h_0_taken, eI cI 16 (D_0 1))] rv := by
  refine CtI.of (cc := cX0_takenAt) (maxL := 2) (by decide) rfl (Nat.le_of_ble_eq_true rfl) ?_
  intro p e s m args below meth c A H0 Q ls X hS hl kret
  have hCF := X.1
  obtain ⟨⟨hx, hb, hml, hown, hts⟩, hK, hA⟩ := X
  have hl : lv_has ls 2 [(0, .ref h_0), (1, .int v1)] := hl
  have q0 := hts (.fieldLink RX0 15 "Patiencery$Drawing" "taken" "[I") (List.mem_cons_of_mem _ mw_88)
  have inX0 : ∀ w ∈ u_ws RX0 TX0 2, w ∈ wtX0_takenAt := fun w h => List.mem_cons_of_mem _ (inlX0 w h)
  unfold F_X0_takenAt at hF
  refine lv_aload_n hx hb dX0_takenAt_0 rfl (lv_at hl 0 rfl) ?_
  refine r_get hx hb hts inX0 hown hK hS 0 1 rfl rfl (by decide) q0 rfl dX0_takenAt_1 ?_
  refine lv_iload_n hx hb dX0_takenAt_4 rfl (lv_at hl 1 rfl) ?_
  replace hF := cal1_e hF
  obtain ⟨x1, hc2, hF⟩ := hF
  refine kN_i (As := [.ref h_0_taken, .int v1]) (rest := []) (wr := [(h_0, oX0 h_0_row h_0_taken), (h_0_row, eI cI 16 (D_0 0))]) (w2 := [(h_0, oX0 h_0_row h_0_taken), (h_0_row, eI cI 16 (D_0 0)), (h_0_taken, eI cI 16 (D_0 1))]) hCF hK (c_X5_at l D cI cJ h_0_taken 16 (D_0 1) v1 x1 hc2) (cwN 2 hK hts (TBL_C mw_114) rfl rfl rfl (host := RX5) (List.mem_of_getElem? (i := 6) rfl) (List.mem_cons_of_mem _ mw_2) (List.mem_cons_of_mem _ mw_113) pmX5_at.2 ⟨Nat.le_of_ble_eq_true rfl, Nat.le_of_ble_eq_true rfl⟩) hS hA [2] [0, 1] rfl rfl rfl rfl (by decide) rfl hl.1 rfl (Nat.le_of_ble_eq_true rfl) ⟨Nat.zero_le _, Nat.zero_le _⟩ dX0_takenAt_5 rfl (fun H locs hS => ?_)
  have e9_0 := Option.some.inj hF
  subst e9_0
  exact kret _ _ _ _ hS dX0_takenAt_8
set_option maxHeartbeats 4000000 in
set_option maxRecDepth 100000 in
theorem c_X5_isWithin (l : Launch) (D : va_G) (cI cJ : ClassId) (v0 : Int32) (v1 : Int32) (v2 : Int32) (rv : Int32) (hF : F_X5_isWithin v0 v1 v2 = some rv) : CtI l D [(cI, .int), (cJ, .long)] yX5_isWithin wtX5_isWithin ({ frames := 0, cells := 0, slots := 0, locals := 0 } : Room) [.int v0, .int v1, .int v2] [] [] rv := by
  refine CtZ.of (cc := cX5_isWithin) (maxL := 3) (by decide) rfl (Nat.le_of_ble_eq_true rfl) ?_
  intro p e s m args below meth c A H0 Q ls X hS hl kret
  have hCF := X.1
  obtain ⟨⟨hx, hb, hml, hown, hts⟩, hK, hA⟩ := X
  have hl : lv_has ls 3 [(0, .int v0), (1, .int v1), (2, .int v2)] := hl
  unfold F_X5_isWithin at hF
  refine lv_iload_n hx hb dX5_isWithin_0 rfl (lv_at hl 0 rfl) ?_
  refine lv_iload_n hx hb dX5_isWithin_1 rfl (lv_at hl 1 rfl) ?_
  refine lv_icmp_lt (tgt := 14) hx hb dX5_isWithin_2 (by decide) (fun c_1 => ?_) (fun c_1 => ?_)
  · replace hF := ifp hF c_1
    refine lv_iconst (v := (nI 0)) hx hb dX5_isWithin_14 (by decide) ?_
    replace hF := zb_e hF
    obtain ⟨h01_2, hF⟩ := hF
    have e9_0 := Option.some.inj hF
    subst e9_0
    exact kret _ _ _ _ h01_2 hS dX5_isWithin_15
  · replace hF := ifn hF c_1
    refine lv_iload_n hx hb dX5_isWithin_5 rfl (lv_at hl 0 rfl) ?_
    refine lv_iload_n hx hb dX5_isWithin_6 rfl (lv_at hl 2 rfl) ?_
    refine lv_icmp_gt (tgt := 14) hx hb dX5_isWithin_7 (by decide) (fun c_3 => ?_) (fun c_3 => ?_)
    · replace hF := ifp hF c_3
      refine lv_iconst (v := (nI 0)) hx hb dX5_isWithin_14 (by decide) ?_
      replace hF := zb_e hF
      obtain ⟨h01_4, hF⟩ := hF
      have e9_0 := Option.some.inj hF
      subst e9_0
      exact kret _ _ _ _ h01_4 hS dX5_isWithin_15
    · replace hF := ifn hF c_3
      refine lv_iconst (v := (nI 1)) hx hb dX5_isWithin_10 (by decide) ?_
      refine lv_goto (tgt := 15) hx hb dX5_isWithin_11 (by decide) ?_
      replace hF := zb_e hF
      obtain ⟨h01_5, hF⟩ := hF
      have e9_0 := Option.some.inj hF
      subst e9_0
      exact kret _ _ _ _ h01_5 hS dX5_isWithin_15
set_option maxHeartbeats 4000000 in
set_option maxRecDepth 100000 in
theorem c_X0_isSameAs (l : Launch) (D : va_G) (cI cJ : ClassId) (h_0 h_0_row h_0_taken h_1 h_1_row h_1_taken : Nat) (D_0 : Nat → Nat → Int32) (D_1 : Nat → Nat → Int32) (v2 : Int32) (rv : Int32) (hF : F_X0_isSameAs D_0 D_1 v2 = some rv) : CtI l D [(cI, .int), (cJ, .long)] yX0_isSameAs wtX0_isSameAs ({ frames := 2, cells := 0, slots := 0, locals := 42 } : Room) [.ref h_0, .ref h_1, .int v2] [(h_0, oX0 h_0_row h_0_taken), (h_0_row, eI cI 16 (D_0 0)), (h_0_taken, eI cI 16 (D_0 1)), (h_1, oX0 h_1_row h_1_taken), (h_1_row, eI cI 16 (D_1 0)), (h_1_taken, eI cI 16 (D_1 1))] [(h_0, oX0 h_0_row h_0_taken), (h_0_row, eI cI 16 (D_0 0)), (h_0_taken, eI cI 16 (D_0 1)), (h_1, oX0 h_1_row h_1_taken), (h_1_row, eI cI 16 (D_1 0)), (h_1_taken, eI cI 16 (D_1 1))] rv := by
  refine CtZ.of (cc := cX0_isSameAs) (maxL := 4) (by decide) rfl (Nat.le_of_ble_eq_true rfl) ?_
  intro p e s m args below meth c A H0 Q ls X hS hl kret
  have hCF := X.1
  obtain ⟨⟨hx, hb, hml, hown, hts⟩, hK, hA⟩ := X
  have hl : lv_has ls 4 [(0, .ref h_0), (1, .ref h_1), (2, .int v2)] := hl
  have S2 : ∀ (K2 : Int32 → Int32 → Option (Int32)) (_ : ∀ (v2 : Int32) (v3 : Int32) (H : Heap) (locs : List Loc) (ls : Array Slot), HS D A H0 [(h_0, oX0 h_0_row h_0_taken), (h_0_row, eI cI 16 (D_0 0)), (h_0_taken, eI cI 16 (D_0 1)), (h_1, oX0 h_1_row h_1_taken), (h_1_row, eI cI 16 (D_1 0)), (h_1_taken, eI cI 16 (D_1 1))] H locs → lv_has ls 4 [(0, .ref h_0), (1, .ref h_1), (2, .int v2), (3, .int v3)] → K2 v2 v3 = some rv → W p l e ({ frames := 2, cells := 0, slots := 0, locals := 42 } : Room) s m args below meth c H locs 0 0 Q (F0 m 2 ls [])) (v2 : Int32) (v3 : Int32) (H : Heap) (locs : List Loc) (ls : Array Slot), HS D A H0 [(h_0, oX0 h_0_row h_0_taken), (h_0_row, eI cI 16 (D_0 0)), (h_0_taken, eI cI 16 (D_0 1)), (h_1, oX0 h_1_row h_1_taken), (h_1_row, eI cI 16 (D_1 0)), (h_1_taken, eI cI 16 (D_1 1))] H locs → lv_has ls 4 [(0, .ref h_0), (1, .ref h_1), (2, .int v2), (3, .int v3)] → F_X0_isSameAs_s2 D_0 D_1 K2 v2 v3 = some rv → W p l e ({ frames := 2, cells := 0, slots := 0, locals := 42 } : Room) s m args below meth c H locs 0 0 Q (F0 m 2 ls []) := by
    intro K2 hK2 v2 v3 H locs ls hS hl hF
    unfold F_X0_isSameAs_s2 at hF
    refine lv_iload_n hx hb dX0_isSameAs_2 rfl (lv_at hl 3 rfl) ?_
    refine lv_iload_n hx hb dX0_isSameAs_3 rfl (lv_at hl 2 rfl) ?_
    refine lv_icmp_ge (tgt := 28) hx hb dX0_isSameAs_4 (by decide) (fun c_1 => ?_) (fun c_1 => ?_)
    · replace hF := ifp hF c_1
      refine lv_iconst (v := (nI 1)) hx hb dX0_isSameAs_28 (by decide) ?_
      replace hF := zb_e hF
      obtain ⟨h01_2, hF⟩ := hF
      have e9_0 := Option.some.inj hF
      subst e9_0
      exact kret _ _ _ _ h01_2 hS dX0_isSameAs_29
    · replace hF := ifn hF c_1
      refine lv_aload_n hx hb dX0_isSameAs_7 rfl (lv_at hl 0 rfl) ?_
      refine lv_iload_n hx hb dX0_isSameAs_8 rfl (lv_at hl 3 rfl) ?_
      replace hF := cal1_e hF
      obtain ⟨x3, hc4, hF⟩ := hF
      refine kV_i (As := [.int v3]) (rest := []) (wr := [(h_1, oX0 h_1_row h_1_taken), (h_1_row, eI cI 16 (D_1 0)), (h_1_taken, eI cI 16 (D_1 1))]) (w2 := [(h_1, oX0 h_1_row h_1_taken), (h_1_row, eI cI 16 (D_1 0)), (h_1_taken, eI cI 16 (D_1 1)), (h_0, oX0 h_0_row h_0_taken), (h_0_row, eI cI 16 (D_0 0)), (h_0_taken, eI cI 16 (D_0 1))]) hCF hK (c_X0_takenAt l D cI cJ h_0 h_0_row h_0_taken D_0 v3 x3 hc4) (cwV 1 hts (TBL_V mw_233 mw_140 mw_141 mw_29 mw_142) rfl rfl rfl pmX0_takenAt ⟨Nat.le_of_ble_eq_true rfl, Nat.le_of_ble_eq_true rfl⟩) hS hA [0, 1, 2] [3, 4, 5] rfl rfl rfl rfl (by decide) rfl rfl rfl hl.1 rfl (Nat.le_of_ble_eq_true rfl) ⟨Nat.zero_le _, Nat.zero_le _⟩ dX0_isSameAs_9 rfl (fun H locs hS => ?_)
      refine lv_aload_n hx hb dX0_isSameAs_12 rfl (lv_at hl 1 rfl) ?_
      refine lv_iload_n hx hb dX0_isSameAs_13 rfl (lv_at hl 3 rfl) ?_
      replace hF := cal1_e hF
      obtain ⟨x5, hc6, hF⟩ := hF
      refine kV_i (As := [.int v3]) (rest := [.int x3]) (wr := [(h_0, oX0 h_0_row h_0_taken), (h_0_row, eI cI 16 (D_0 0)), (h_0_taken, eI cI 16 (D_0 1))]) (w2 := [(h_0, oX0 h_0_row h_0_taken), (h_0_row, eI cI 16 (D_0 0)), (h_0_taken, eI cI 16 (D_0 1)), (h_1, oX0 h_1_row h_1_taken), (h_1_row, eI cI 16 (D_1 0)), (h_1_taken, eI cI 16 (D_1 1))]) hCF hK (c_X0_takenAt l D cI cJ h_1 h_1_row h_1_taken D_1 v3 x5 hc6) (cwV 1 hts (TBL_V mw_233 mw_140 mw_141 mw_29 mw_142) rfl rfl rfl pmX0_takenAt ⟨Nat.le_of_ble_eq_true rfl, Nat.le_of_ble_eq_true rfl⟩) hS hA [0, 1, 2] [3, 4, 5] rfl rfl rfl rfl (by decide) rfl rfl rfl hl.1 rfl (Nat.le_of_ble_eq_true rfl) ⟨Nat.zero_le _, Nat.zero_le _⟩ dX0_isSameAs_14 rfl (fun H locs hS => ?_)
      refine lv_icmp_eq (tgt := 22) hx hb dX0_isSameAs_17 (by decide) (fun c_7 => ?_) (fun c_7 => ?_)
      · replace hF := ifp hF c_7
        refine lv_iinc (v := v3 + (nI 1)) (lv' := [(3, .int (v3 + (nI 1))), (0, .ref h_0), (1, .ref h_1), (2, .int v2)]) hx hb dX0_isSameAs_22 hl (k := 3) rfl rfl (by decide) rfl (fun ls hl => ?_)
        refine lv_goto (tgt := 2) hx hb dX0_isSameAs_25 (by decide) ?_
        exact hK2 v2 (v3 + (nI 1)) _ _ _ hS (lv_sub hl [1, 2, 3, 0] rfl) hF
      · replace hF := ifn hF c_7
        refine lv_iconst (v := (nI 0)) hx hb dX0_isSameAs_20 (by decide) ?_
        replace hF := zb_e hF
        obtain ⟨h01_8, hF⟩ := hF
        have e9_0 := Option.some.inj hF
        subst e9_0
        exact kret _ _ _ _ h01_8 hS dX0_isSameAs_21
  have L2 : ∀  (n : Nat) (v2 : Int32) (v3 : Int32) (H : Heap) (locs : List Loc) (ls : Array Slot), HS D A H0 [(h_0, oX0 h_0_row h_0_taken), (h_0_row, eI cI 16 (D_0 0)), (h_0_taken, eI cI 16 (D_0 1)), (h_1, oX0 h_1_row h_1_taken), (h_1_row, eI cI 16 (D_1 0)), (h_1_taken, eI cI 16 (D_1 1))] H locs → lv_has ls 4 [(0, .ref h_0), (1, .ref h_1), (2, .int v2), (3, .int v3)] → F_X0_isSameAs_L2 D_0 D_1  n v2 v3 = some rv → W p l e ({ frames := 2, cells := 0, slots := 0, locals := 42 } : Room) s m args below meth c H locs 0 0 Q (F0 m 2 ls []) := by
    intro  n
    induction n with
    | zero => intro v2 v3 H locs ls hS hl hF; exact nomatch (show (none : Option (Int32)) = some _ from hF)
    | succ n ih => intro v2 v3 H locs ls hS hl hF; exact S2  _ ih v2 v3 H locs ls hS hl hF
  unfold F_X0_isSameAs at hF
  refine lv_iconst (v := (nI 0)) hx hb dX0_isSameAs_0 (by decide) ?_
  refine lv_istore_n (lv' := [(3, .int (nI 0)), (0, .ref h_0), (1, .ref h_1), (2, .int v2)]) hx hb dX0_isSameAs_1 rfl hl (by decide) rfl (fun ls hl => ?_)
  exact L2 FU v2 (nI 0) _ _ _ hS (lv_sub hl [1, 2, 3, 0] rfl) hF
set_option maxHeartbeats 4000000 in
set_option maxRecDepth 100000 in
theorem c_X1_copyFrom (l : Launch) (D : va_G) (cI cJ : ClassId) (h_0 h_1 : Nat) (r_1 : Nat → Int32) (r_0 : Nat → Int32) (r_r_0 : Nat → Int32) (hF : F_X1_copyFrom r_1 r_0 = some r_r_0) : CtV l D [(cI, .int), (cJ, .long)] yX1_copyFrom wtX1_copyFrom ({ frames := 0, cells := 0, slots := 0, locals := 0 } : Room) [.ref h_0, .ref h_1] [(h_0, oX1 r_0), (h_1, oX1 r_1)] [(h_0, oX1 r_r_0), (h_1, oX1 r_1)] := by
  refine CtV.of (cc := cX1_copyFrom) (maxL := 2) (by decide) rfl (Nat.le_of_ble_eq_true rfl) ?_
  intro p e s m args below meth c A H0 Q ls X hS hl kret
  have hCF := X.1
  obtain ⟨⟨hx, hb, hml, hown, hts⟩, hK, hA⟩ := X
  have hl : lv_has ls 2 [(0, .ref h_0), (1, .ref h_1)] := hl
  have q0 := hts (.fieldLink RX1 9 "Patiencery$Rules" "suits" "I") (List.mem_cons_of_mem _ mw_38)
  have inX1 : ∀ w ∈ u_ws RX1 TX1 9, w ∈ wtX1_copyFrom := fun w h => List.mem_cons_of_mem _ (inlX1 w h)
  have q2 := hts (.fieldLink RX1 15 "Patiencery$Rules" "ranks" "I") (List.mem_cons_of_mem _ mw_39)
  have q3 := hts (.fieldLink RX1 18 "Patiencery$Rules" "columns" "I") (List.mem_cons_of_mem _ mw_40)
  have q4 := hts (.fieldLink RX1 21 "Patiencery$Rules" "cells" "I") (List.mem_cons_of_mem _ mw_41)
  have q5 := hts (.fieldLink RX1 24 "Patiencery$Rules" "build" "I") (List.mem_cons_of_mem _ mw_42)
  have q6 := hts (.fieldLink RX1 27 "Patiencery$Rules" "empty" "I") (List.mem_cons_of_mem _ mw_43)
  have q7 := hts (.fieldLink RX1 30 "Patiencery$Rules" "inStock" "I") (List.mem_cons_of_mem _ mw_44)
  have q8 := hts (.fieldLink RX1 33 "Patiencery$Rules" "again" "I") (List.mem_cons_of_mem _ mw_45)
  have q9 := hts (.fieldLink RX1 36 "Patiencery$Rules" "isHidden" "Z") (List.mem_cons_of_mem _ mw_46)
  unfold F_X1_copyFrom at hF
  refine lv_aload_n hx hb dX1_copyFrom_0 rfl (lv_at hl 0 rfl) ?_
  refine lv_aload_n hx hb dX1_copyFrom_1 rfl (lv_at hl 1 rfl) ?_
  refine r_get hx hb hts inX1 hown hK hS 1 0 rfl rfl (by decide) q0 rfl dX1_copyFrom_2 ?_
  replace hF := bnd_e hF
  obtain ⟨r_0u1, er_0u1, hF⟩ := hF
  refine r_put (w2 := [(h_0, oX1 r_0u1), (h_1, oX1 r_1)]) hx hb hts inX1 tyX1 tyX1_ok nmX1 hown hK hS 0 0 rfl rfl (by decide) q0 rfl rfl rfl (Nat.le_of_ble_eq_true rfl) dX1_copyFrom_5 (by rw [er_0u1]; rfl) (fun H locs hS => ?_)
  refine lv_aload_n hx hb dX1_copyFrom_8 rfl (lv_at hl 0 rfl) ?_
  refine lv_aload_n hx hb dX1_copyFrom_9 rfl (lv_at hl 1 rfl) ?_
  refine r_get hx hb hts inX1 hown hK hS 1 1 rfl rfl (by decide) q2 rfl dX1_copyFrom_10 ?_
  replace hF := bnd_e hF
  obtain ⟨r_0u2, er_0u2, hF⟩ := hF
  refine r_put (w2 := [(h_0, oX1 r_0u2), (h_1, oX1 r_1)]) hx hb hts inX1 tyX1 tyX1_ok nmX1 hown hK hS 0 1 rfl rfl (by decide) q2 rfl rfl rfl (Nat.le_of_ble_eq_true rfl) dX1_copyFrom_13 (by rw [er_0u2]; rfl) (fun H locs hS => ?_)
  refine lv_aload_n hx hb dX1_copyFrom_16 rfl (lv_at hl 0 rfl) ?_
  refine lv_aload_n hx hb dX1_copyFrom_17 rfl (lv_at hl 1 rfl) ?_
  refine r_get hx hb hts inX1 hown hK hS 1 2 rfl rfl (by decide) q3 rfl dX1_copyFrom_18 ?_
  replace hF := bnd_e hF
  obtain ⟨r_0u3, er_0u3, hF⟩ := hF
  refine r_put (w2 := [(h_0, oX1 r_0u3), (h_1, oX1 r_1)]) hx hb hts inX1 tyX1 tyX1_ok nmX1 hown hK hS 0 2 rfl rfl (by decide) q3 rfl rfl rfl (Nat.le_of_ble_eq_true rfl) dX1_copyFrom_21 (by rw [er_0u3]; rfl) (fun H locs hS => ?_)
  refine lv_aload_n hx hb dX1_copyFrom_24 rfl (lv_at hl 0 rfl) ?_
  refine lv_aload_n hx hb dX1_copyFrom_25 rfl (lv_at hl 1 rfl) ?_
  refine r_get hx hb hts inX1 hown hK hS 1 3 rfl rfl (by decide) q4 rfl dX1_copyFrom_26 ?_
  replace hF := bnd_e hF
  obtain ⟨r_0u4, er_0u4, hF⟩ := hF
  refine r_put (w2 := [(h_0, oX1 r_0u4), (h_1, oX1 r_1)]) hx hb hts inX1 tyX1 tyX1_ok nmX1 hown hK hS 0 3 rfl rfl (by decide) q4 rfl rfl rfl (Nat.le_of_ble_eq_true rfl) dX1_copyFrom_29 (by rw [er_0u4]; rfl) (fun H locs hS => ?_)
  refine lv_aload_n hx hb dX1_copyFrom_32 rfl (lv_at hl 0 rfl) ?_
  refine lv_aload_n hx hb dX1_copyFrom_33 rfl (lv_at hl 1 rfl) ?_
  refine r_get hx hb hts inX1 hown hK hS 1 4 rfl rfl (by decide) q5 rfl dX1_copyFrom_34 ?_
  replace hF := bnd_e hF
  obtain ⟨r_0u5, er_0u5, hF⟩ := hF
  refine r_put (w2 := [(h_0, oX1 r_0u5), (h_1, oX1 r_1)]) hx hb hts inX1 tyX1 tyX1_ok nmX1 hown hK hS 0 4 rfl rfl (by decide) q5 rfl rfl rfl (Nat.le_of_ble_eq_true rfl) dX1_copyFrom_37 (by rw [er_0u5]; rfl) (fun H locs hS => ?_)
  refine lv_aload_n hx hb dX1_copyFrom_40 rfl (lv_at hl 0 rfl) ?_
  refine lv_aload_n hx hb dX1_copyFrom_41 rfl (lv_at hl 1 rfl) ?_
  refine r_get hx hb hts inX1 hown hK hS 1 5 rfl rfl (by decide) q6 rfl dX1_copyFrom_42 ?_
  replace hF := bnd_e hF
  obtain ⟨r_0u6, er_0u6, hF⟩ := hF
  refine r_put (w2 := [(h_0, oX1 r_0u6), (h_1, oX1 r_1)]) hx hb hts inX1 tyX1 tyX1_ok nmX1 hown hK hS 0 5 rfl rfl (by decide) q6 rfl rfl rfl (Nat.le_of_ble_eq_true rfl) dX1_copyFrom_45 (by rw [er_0u6]; rfl) (fun H locs hS => ?_)
  refine lv_aload_n hx hb dX1_copyFrom_48 rfl (lv_at hl 0 rfl) ?_
  refine lv_aload_n hx hb dX1_copyFrom_49 rfl (lv_at hl 1 rfl) ?_
  refine r_get hx hb hts inX1 hown hK hS 1 6 rfl rfl (by decide) q7 rfl dX1_copyFrom_50 ?_
  replace hF := bnd_e hF
  obtain ⟨r_0u7, er_0u7, hF⟩ := hF
  refine r_put (w2 := [(h_0, oX1 r_0u7), (h_1, oX1 r_1)]) hx hb hts inX1 tyX1 tyX1_ok nmX1 hown hK hS 0 6 rfl rfl (by decide) q7 rfl rfl rfl (Nat.le_of_ble_eq_true rfl) dX1_copyFrom_53 (by rw [er_0u7]; rfl) (fun H locs hS => ?_)
  refine lv_aload_n hx hb dX1_copyFrom_56 rfl (lv_at hl 0 rfl) ?_
  refine lv_aload_n hx hb dX1_copyFrom_57 rfl (lv_at hl 1 rfl) ?_
  refine r_get hx hb hts inX1 hown hK hS 1 7 rfl rfl (by decide) q8 rfl dX1_copyFrom_58 ?_
  replace hF := bnd_e hF
  obtain ⟨r_0u8, er_0u8, hF⟩ := hF
  refine r_put (w2 := [(h_0, oX1 r_0u8), (h_1, oX1 r_1)]) hx hb hts inX1 tyX1 tyX1_ok nmX1 hown hK hS 0 7 rfl rfl (by decide) q8 rfl rfl rfl (Nat.le_of_ble_eq_true rfl) dX1_copyFrom_61 (by rw [er_0u8]; rfl) (fun H locs hS => ?_)
  refine lv_aload_n hx hb dX1_copyFrom_64 rfl (lv_at hl 0 rfl) ?_
  refine lv_aload_n hx hb dX1_copyFrom_65 rfl (lv_at hl 1 rfl) ?_
  refine r_get hx hb hts inX1 hown hK hS 1 8 rfl rfl (by decide) q9 rfl dX1_copyFrom_66 ?_
  replace hF := zb_e hF
  obtain ⟨h01_10, hF⟩ := hF
  replace hF := bnd_e hF
  obtain ⟨r_0u9, er_0u9, hF⟩ := hF
  refine r_put (w2 := [(h_0, oX1 r_0u9), (h_1, oX1 r_1)]) hx hb hts inX1 tyX1 tyX1_ok nmX1 hown hK hS 0 8 rfl rfl (by decide) q9 rfl (by rcases h01_10 with h | h <;> rw [h] <;> decide) (by rcases h01_10 with h | h <;> rw [h] <;> decide) (Nat.le_of_ble_eq_true rfl) dX1_copyFrom_69 (by rw [er_0u9]; rfl) (fun H locs hS => ?_)
  have e9_0 := Option.some.inj hF
  subst e9_0
  exact kret _ _ _ _ hS dX1_copyFrom_72
