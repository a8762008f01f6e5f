set_option maxHeartbeats 4000000 in
set_option maxRecDepth 100000 in
theorem c_X6_known (l : Launch) (D : va_G) (cI cJ : ClassId) (h_0 h_0_of h_0_kept h_0_column h_0_size h_0_hidden h_0_cell h_0_home h_0_waste h_0_stock h_0_past h_0_start h_0_known h_0_sorted h_0_row h_0_best : Nat) (I_0 : Nat → Nat → Int32) (L_0 : Nat → Nat → Int64) (v1 : Int32) (rv : Int32) (r_I_0 : Nat → Nat → Int32) (r_L_0 : Nat → Nat → Int64) (hF : F_X6_known I_0 L_0 v1 = some (rv, r_I_0, r_L_0)) : CtI l D [(cI, .int), (cJ, .long)] yX6_known wtX6_known ({ frames := 7, cells := 0, slots := 0, locals := 173 } : Room) [.ref h_0, .int v1] [(h_0, oX6 h_0_of h_0_kept h_0_column h_0_size h_0_hidden h_0_cell h_0_home h_0_waste h_0_stock h_0_past h_0_start h_0_known h_0_sorted h_0_row h_0_best I_0), (h_0_of, eI cI 9 (I_0 1)), (h_0_kept, eI cI 9 (I_0 2)), (h_0_column, eJ cJ 5 (L_0 0)), (h_0_size, eI cI 5 (I_0 3)), (h_0_hidden, eI cI 5 (I_0 4)), (h_0_cell, eI cI 2 (I_0 5)), (h_0_home, eI cI 4 (I_0 6)), (h_0_waste, eI cI 8 (I_0 7)), (h_0_stock, eI cI 8 (I_0 8)), (h_0_past, eJ cJ 1616 (L_0 1)), (h_0_start, eJ cJ 8 (L_0 2)), (h_0_known, eJ cJ 3216 (L_0 3)), (h_0_sorted, eJ cJ 3216 (L_0 4)), (h_0_row, eI cI 16 (I_0 9)), (h_0_best, eJ cJ 8 (L_0 5))] [(h_0, oX6 h_0_of h_0_kept h_0_column h_0_size h_0_hidden h_0_cell h_0_home h_0_waste h_0_stock h_0_past h_0_start h_0_known h_0_sorted h_0_row h_0_best r_I_0), (h_0_of, eI cI 9 (r_I_0 1)), (h_0_kept, eI cI 9 (r_I_0 2)), (h_0_column, eJ cJ 5 (r_L_0 0)), (h_0_size, eI cI 5 (r_I_0 3)), (h_0_hidden, eI cI 5 (r_I_0 4)), (h_0_cell, eI cI 2 (r_I_0 5)), (h_0_home, eI cI 4 (r_I_0 6)), (h_0_waste, eI cI 8 (r_I_0 7)), (h_0_stock, eI cI 8 (r_I_0 8)), (h_0_past, eJ cJ 1616 (r_L_0 1)), (h_0_start, eJ cJ 8 (r_L_0 2)), (h_0_known, eJ cJ 3216 (r_L_0 3)), (h_0_sorted, eJ cJ 3216 (r_L_0 4)), (h_0_row, eI cI 16 (r_I_0 9)), (h_0_best, eJ cJ 8 (r_L_0 5))] rv := by
  refine CtI.of (cc := cX6_known) (maxL := 3) (by decide) rfl (Nat.le_of_ble_eq_true rfl) ?_
  intro p e s m args below meth c A H0 Q ls X hS hl kret
  have hCF := X.1
  obtain ⟨⟨hx, hb, hml, hown, hts⟩, hK, hA⟩ := X
  have hl : lv_has ls 3 [(0, .ref h_0), (1, .int v1)] := hl
  have q0 := hts (.fieldLink RX6 228 "PatienceryModel" "many" "I") (List.mem_cons_of_mem _ mw_697)
  have inX6 : ∀ w ∈ u_ws RX6 TX6 32, w ∈ wtX6_known := fun w h => List.mem_cons_of_mem _ (inlX6 w h)
  have B17 : ∀ (I_0 : Nat → Nat → Int32) (L_0 : Nat → Nat → Int64) (v1 : Int32) (s1 : Int32) (H : Heap) (locs : List Loc) (ls : Array Slot), HS D A H0 [(h_0, oX6 h_0_of h_0_kept h_0_column h_0_size h_0_hidden h_0_cell h_0_home h_0_waste h_0_stock h_0_past h_0_start h_0_known h_0_sorted h_0_row h_0_best I_0), (h_0_of, eI cI 9 (I_0 1)), (h_0_kept, eI cI 9 (I_0 2)), (h_0_column, eJ cJ 5 (L_0 0)), (h_0_size, eI cI 5 (I_0 3)), (h_0_hidden, eI cI 5 (I_0 4)), (h_0_cell, eI cI 2 (I_0 5)), (h_0_home, eI cI 4 (I_0 6)), (h_0_waste, eI cI 8 (I_0 7)), (h_0_stock, eI cI 8 (I_0 8)), (h_0_past, eJ cJ 1616 (L_0 1)), (h_0_start, eJ cJ 8 (L_0 2)), (h_0_known, eJ cJ 3216 (L_0 3)), (h_0_sorted, eJ cJ 3216 (L_0 4)), (h_0_row, eI cI 16 (I_0 9)), (h_0_best, eJ cJ 8 (L_0 5))] H locs → lv_has ls 3 [(0, .ref h_0), (1, .int v1)] → F_X6_known_b17   I_0 L_0 v1 s1 = some (rv, r_I_0, r_L_0) → W p l e ({ frames := 7, cells := 0, slots := 0, locals := 173 } : Room) s m args below meth c H locs 0 0 Q (F0 m 17 ls [.int s1, .ref h_0]) := by
    intro I_0 L_0 v1 s1 H locs ls hS hl hF
    unfold F_X6_known_b17 at hF
    replace hF := cal2_e hF
    obtain ⟨x1, I_0u2, hc3, hF⟩ := hF
    refine kV_i (As := [.int s1]) (rest := []) (wr := []) (w2 := [(h_0, oX6 h_0_of h_0_kept h_0_column h_0_size h_0_hidden h_0_cell h_0_home h_0_waste h_0_stock h_0_past h_0_start h_0_known h_0_sorted h_0_row h_0_best I_0u2), (h_0_of, eI cI 9 (I_0u2 1)), (h_0_kept, eI cI 9 (I_0u2 2)), (h_0_column, eJ cJ 5 (L_0 0)), (h_0_size, eI cI 5 (I_0u2 3)), (h_0_hidden, eI cI 5 (I_0u2 4)), (h_0_cell, eI cI 2 (I_0u2 5)), (h_0_home, eI cI 4 (I_0u2 6)), (h_0_waste, eI cI 8 (I_0u2 7)), (h_0_stock, eI cI 8 (I_0u2 8)), (h_0_past, eJ cJ 1616 (L_0 1)), (h_0_start, eJ cJ 8 (L_0 2)), (h_0_known, eJ cJ 3216 (L_0 3)), (h_0_sorted, eJ cJ 3216 (L_0 4)), (h_0_row, eI cI 16 (I_0u2 9)), (h_0_best, eJ cJ 8 (L_0 5))]) hCF hK (c_X6_goesWell l D cI cJ h_0 h_0_of h_0_kept h_0_column h_0_size h_0_hidden h_0_cell h_0_home h_0_waste h_0_stock h_0_past h_0_start h_0_known h_0_sorted h_0_row h_0_best L_0 I_0 s1 x1 I_0u2 hc3) (cwV 1 hts (TBL_V mw_237 mw_238 mw_239 mw_5 mw_240) rfl rfl rfl pmX6_goesWell ⟨Nat.le_of_ble_eq_true rfl, Nat.le_of_ble_eq_true rfl⟩) hS hA [0, 1, 2, 3, 4, 5, 6, 7, 8, 9, 10, 11, 12, 13, 14, 15] [] rfl rfl rfl rfl (by decide) rfl rfl rfl hl.1 rfl (Nat.le_of_ble_eq_true rfl) ⟨Nat.zero_le _, Nat.zero_le _⟩ dX6_known_17 rfl (fun H locs hS => ?_)
    refine lv_if_ne (tgt := 25) hx hb dX6_known_20 (by decide) (fun c_4 => ?_) (fun c_4 => ?_)
    · replace hF := ifn hF c_4
      refine lv_aload_n hx hb dX6_known_25 rfl (lv_at hl 0 rfl) ?_
      refine lv_iload_n hx hb dX6_known_26 rfl (lv_at hl 1 rfl) ?_
      replace hF := cal3_e hF
      obtain ⟨x5, I_0u6, L_0u7, hc8, hF⟩ := hF
      refine kV_i (As := [.int v1]) (rest := []) (wr := []) (w2 := [(h_0, oX6 h_0_of h_0_kept h_0_column h_0_size h_0_hidden h_0_cell h_0_home h_0_waste h_0_stock h_0_past h_0_start h_0_known h_0_sorted h_0_row h_0_best I_0u6), (h_0_of, eI cI 9 (I_0u6 1)), (h_0_kept, eI cI 9 (I_0u6 2)), (h_0_column, eJ cJ 5 (L_0u7 0)), (h_0_size, eI cI 5 (I_0u6 3)), (h_0_hidden, eI cI 5 (I_0u6 4)), (h_0_cell, eI cI 2 (I_0u6 5)), (h_0_home, eI cI 4 (I_0u6 6)), (h_0_waste, eI cI 8 (I_0u6 7)), (h_0_stock, eI cI 8 (I_0u6 8)), (h_0_past, eJ cJ 1616 (L_0u7 1)), (h_0_start, eJ cJ 8 (L_0u7 2)), (h_0_known, eJ cJ 3216 (L_0u7 3)), (h_0_sorted, eJ cJ 3216 (L_0u7 4)), (h_0_row, eI cI 16 (I_0u6 9)), (h_0_best, eJ cJ 8 (L_0u7 5))]) hCF hK (c_X6_look l D cI cJ h_0 h_0_of h_0_kept h_0_column h_0_size h_0_hidden h_0_cell h_0_home h_0_waste h_0_stock h_0_past h_0_start h_0_known h_0_sorted h_0_row h_0_best I_0u2 L_0 v1 x5 I_0u6 L_0u7 hc8) (cwV 1 hts (TBL_V mw_693 mw_694 mw_695 mw_5 mw_696) rfl rfl rfl pmX6_look ⟨Nat.le_of_ble_eq_true rfl, Nat.le_of_ble_eq_true rfl⟩) hS hA [0, 1, 2, 3, 4, 5, 6, 7, 8, 9, 10, 11, 12, 13, 14, 15] [] rfl rfl rfl rfl (by decide) rfl rfl rfl hl.1 rfl (Nat.le_of_ble_eq_true rfl) ⟨Nat.zero_le _, Nat.zero_le _⟩ dX6_known_27 rfl (fun H locs hS => ?_)
      refine lv_istore_n (lv' := [(2, .int x5), (0, .ref h_0), (1, .int v1)]) hx hb dX6_known_30 rfl hl (by decide) rfl (fun ls hl => ?_)
      refine lv_aload_n hx hb dX6_known_31 rfl (lv_at hl 1 rfl) ?_
      refine r_get hx hb hts inX6 hown hK hS 0 29 rfl rfl (by decide) q0 rfl dX6_known_32 ?_
      have e9_0 := Option.some.inj hF
      obtain ⟨f9_0, e9_1⟩ := Prod.mk.inj e9_0
      obtain ⟨f9_1, e9_2⟩ := Prod.mk.inj e9_1
      subst f9_0
      subst f9_1
      subst e9_2
      exact kret _ _ _ _ hS dX6_known_35
    · replace hF := ifp hF c_4
      refine lv_iconst (v := (nI 0)) hx hb dX6_known_23 (by decide) ?_
      have e9_0 := Option.some.inj hF
      obtain ⟨f9_0, e9_1⟩ := Prod.mk.inj e9_0
      obtain ⟨f9_1, e9_2⟩ := Prod.mk.inj e9_1
      subst f9_0
      subst f9_1
      subst e9_2
      exact kret _ _ _ _ hS dX6_known_24
  unfold F_X6_known at hF
  refine lv_aload_n hx hb dX6_known_0 rfl (lv_at hl 0 rfl) ?_
  refine lv_iload_n hx hb dX6_known_1 rfl (lv_at hl 1 rfl) ?_
  refine lv_iconst (v := (nI 1)) hx hb dX6_known_2 (by decide) ?_
  refine lv_sipush (v := (nI 400)) hx hb dX6_known_3 (by decide) ?_
  replace hF := cal1_e hF
  obtain ⟨x9, hc10, hF⟩ := hF
  refine kS_i (As := [.int v1, .int (nI 1), .int (nI 400)]) (rest := [.ref h_0]) (wr := [(h_0, oX6 h_0_of h_0_kept h_0_column h_0_size h_0_hidden h_0_cell h_0_home h_0_waste h_0_stock h_0_past h_0_start h_0_known h_0_sorted h_0_row h_0_best I_0), (h_0_of, eI cI 9 (I_0 1)), (h_0_kept, eI cI 9 (I_0 2)), (h_0_column, eJ cJ 5 (L_0 0)), (h_0_size, eI cI 5 (I_0 3)), (h_0_hidden, eI cI 5 (I_0 4)), (h_0_cell, eI cI 2 (I_0 5)), (h_0_home, eI cI 4 (I_0 6)), (h_0_waste, eI cI 8 (I_0 7)), (h_0_stock, eI cI 8 (I_0 8)), (h_0_past, eJ cJ 1616 (L_0 1)), (h_0_start, eJ cJ 8 (L_0 2)), (h_0_known, eJ cJ 3216 (L_0 3)), (h_0_sorted, eJ cJ 3216 (L_0 4)), (h_0_row, eI cI 16 (I_0 9)), (h_0_best, eJ cJ 8 (L_0 5))]) (w2 := [(h_0, oX6 h_0_of h_0_kept h_0_column h_0_size h_0_hidden h_0_cell h_0_home h_0_waste h_0_stock h_0_past h_0_start h_0_known h_0_sorted h_0_row h_0_best I_0), (h_0_of, eI cI 9 (I_0 1)), (h_0_kept, eI cI 9 (I_0 2)), (h_0_column, eJ cJ 5 (L_0 0)), (h_0_size, eI cI 5 (I_0 3)), (h_0_hidden, eI cI 5 (I_0 4)), (h_0_cell, eI cI 2 (I_0 5)), (h_0_home, eI cI 4 (I_0 6)), (h_0_waste, eI cI 8 (I_0 7)), (h_0_stock, eI cI 8 (I_0 8)), (h_0_past, eJ cJ 1616 (L_0 1)), (h_0_start, eJ cJ 8 (L_0 2)), (h_0_known, eJ cJ 3216 (L_0 3)), (h_0_sorted, eJ cJ 3216 (L_0 4)), (h_0_row, eI cI 16 (I_0 9)), (h_0_best, eJ cJ 8 (L_0 5))]) hCF hK (c_X6_in l D cI cJ v1 (nI 1) (nI 400) x9 hc10) (va_cwS 3 hts (TBL_S mw_234 mw_235 mw_5 mw_236) rfl rfl rfl pmX6_in.2 ⟨Nat.le_of_ble_eq_true rfl, Nat.le_of_ble_eq_true rfl⟩) hS hA [] [0, 1, 2, 3, 4, 5, 6, 7, 8, 9, 10, 11, 12, 13, 14, 15] rfl rfl rfl rfl (by decide) rfl hl.1 rfl (Nat.le_of_ble_eq_true rfl) ⟨Nat.zero_le _, Nat.zero_le _⟩ dX6_known_6 rfl (fun H locs hS => ?_)
  refine lv_if_eq (tgt := 16) hx hb dX6_known_9 (by decide) (fun c_11 => ?_) (fun c_11 => ?_)
  · replace hF := ifp hF c_11
    refine lv_iconst (v := (nI 1)) hx hb dX6_known_16 (by decide) ?_
    exact B17 I_0 L_0 v1 (nI 1) _ _ _ hS (lv_sub hl [0, 1] rfl) hF
  · replace hF := ifn hF c_11
    refine lv_iconst (v := (nI 0)) hx hb dX6_known_12 (by decide) ?_
    refine lv_goto (tgt := 17) hx hb dX6_known_13 (by decide) ?_
    exact B17 I_0 L_0 v1 (nI 0) _ _ _ hS (lv_sub hl [0, 1] rfl) hF
set_option maxHeartbeats 4000000 in
set_option maxRecDepth 100000 in
theorem c_X6_hint (l : Launch) (D : va_G) (cI cJ : ClassId) (h_0 h_0_of h_0_kept h_0_column h_0_size h_0_hidden h_0_cell h_0_home h_0_waste h_0_stock h_0_past h_0_start h_0_known h_0_sorted h_0_row h_0_best : Nat) (I_0 : Nat → Nat → Int32) (L_0 : Nat → Nat → Int64) (rv : Int32) (r_I_0 : Nat → Nat → Int32) (r_L_0 : Nat → Nat → Int64) (hF : F_X6_hint I_0 L_0 = some (rv, r_I_0, r_L_0)) : CtI l D [(cI, .int), (cJ, .long)] yX6_hint wtX6_hint ({ frames := 7, cells := 0, slots := 0, locals := 173 } : Room) [.ref h_0] [(h_0, oX6 h_0_of h_0_kept h_0_column h_0_size h_0_hidden h_0_cell h_0_home h_0_waste h_0_stock h_0_past h_0_start h_0_known h_0_sorted h_0_row h_0_best I_0), (h_0_of, eI cI 9 (I_0 1)), (h_0_kept, eI cI 9 (I_0 2)), (h_0_column, eJ cJ 5 (L_0 0)), (h_0_size, eI cI 5 (I_0 3)), (h_0_hidden, eI cI 5 (I_0 4)), (h_0_cell, eI cI 2 (I_0 5)), (h_0_home, eI cI 4 (I_0 6)), (h_0_waste, eI cI 8 (I_0 7)), (h_0_stock, eI cI 8 (I_0 8)), (h_0_past, eJ cJ 1616 (L_0 1)), (h_0_start, eJ cJ 8 (L_0 2)), (h_0_known, eJ cJ 3216 (L_0 3)), (h_0_sorted, eJ cJ 3216 (L_0 4)), (h_0_row, eI cI 16 (I_0 9)), (h_0_best, eJ cJ 8 (L_0 5))] [(h_0, oX6 h_0_of h_0_kept h_0_column h_0_size h_0_hidden h_0_cell h_0_home h_0_waste h_0_stock h_0_past h_0_start h_0_known h_0_sorted h_0_row h_0_best r_I_0), (h_0_of, eI cI 9 (r_I_0 1)), (h_0_kept, eI cI 9 (r_I_0 2)), (h_0_column, eJ cJ 5 (r_L_0 0)), (h_0_size, eI cI 5 (r_I_0 3)), (h_0_hidden, eI cI 5 (r_I_0 4)), (h_0_cell, eI cI 2 (r_I_0 5)), (h_0_home, eI cI 4 (r_I_0 6)), (h_0_waste, eI cI 8 (r_I_0 7)), (h_0_stock, eI cI 8 (r_I_0 8)), (h_0_past, eJ cJ 1616 (r_L_0 1)), (h_0_start, eJ cJ 8 (r_L_0 2)), (h_0_known, eJ cJ 3216 (r_L_0 3)), (h_0_sorted, eJ cJ 3216 (r_L_0 4)), (h_0_row, eI cI 16 (r_I_0 9)), (h_0_best, eJ cJ 8 (r_L_0 5))] rv := by
  refine CtI.of (cc := cX6_hint) (maxL := 6) (by decide) rfl (Nat.le_of_ble_eq_true rfl) ?_
  intro p e s m args below meth c A H0 Q ls X hS hl kret
  have hCF := X.1
  obtain ⟨⟨hx, hb, hml, hown, hts⟩, hK, hA⟩ := X
  have hl : lv_has ls 6 [(0, .ref h_0)] := hl
  have q0 := hts (.fieldLink RX6 57 "PatienceryModel" "start" "[J") (List.mem_cons_of_mem _ mw_171)
  have inX6 : ∀ w ∈ u_ws RX6 TX6 32, w ∈ wtX6_hint := fun w h => List.mem_cons_of_mem _ (inlX6 w h)
  have q2 := hts (.fieldLink RX6 83 "PatienceryModel" "thrown" "I") (List.mem_cons_of_mem _ mw_241)
  have S38 : ∀ (K38 : (Nat → Nat → Int32) → (Nat → Nat → Int64) → Int32 → Int32 → Int32 → Option (Int32 × (Nat → Nat → Int32) × (Nat → Nat → Int64))) (_ : ∀ (I_0 : Nat → Nat → Int32) (L_0 : Nat → Nat → Int64) (v1 : Int32) (v2 : Int32) (v3 : Int32) (H : Heap) (locs : List Loc) (ls : Array Slot), HS D A H0 [(h_0, oX6 h_0_of h_0_kept h_0_column h_0_size h_0_hidden h_0_cell h_0_home h_0_waste h_0_stock h_0_past h_0_start h_0_known h_0_sorted h_0_row h_0_best I_0), (h_0_of, eI cI 9 (I_0 1)), (h_0_kept, eI cI 9 (I_0 2)), (h_0_column, eJ cJ 5 (L_0 0)), (h_0_size, eI cI 5 (I_0 3)), (h_0_hidden, eI cI 5 (I_0 4)), (h_0_cell, eI cI 2 (I_0 5)), (h_0_home, eI cI 4 (I_0 6)), (h_0_waste, eI cI 8 (I_0 7)), (h_0_stock, eI cI 8 (I_0 8)), (h_0_past, eJ cJ 1616 (L_0 1)), (h_0_start, eJ cJ 8 (L_0 2)), (h_0_known, eJ cJ 3216 (L_0 3)), (h_0_sorted, eJ cJ 3216 (L_0 4)), (h_0_row, eI cI 16 (I_0 9)), (h_0_best, eJ cJ 8 (L_0 5))] H locs → lv_has ls 6 [(0, .ref h_0), (1, .int v1), (2, .int v2), (3, .int v3)] → K38 I_0 L_0 v1 v2 v3 = some (rv, r_I_0, r_L_0) → W p l e ({ frames := 7, cells := 0, slots := 0, locals := 173 } : Room) s m args below meth c H locs 0 0 Q (F0 m 38 ls [])) (I_0 : Nat → Nat → Int32) (L_0 : Nat → Nat → Int64) (v1 : Int32) (v2 : Int32) (v3 : Int32) (H : Heap) (locs : List Loc) (ls : Array Slot), HS D A H0 [(h_0, oX6 h_0_of h_0_kept h_0_column h_0_size h_0_hidden h_0_cell h_0_home h_0_waste h_0_stock h_0_past h_0_start h_0_known h_0_sorted h_0_row h_0_best I_0), (h_0_of, eI cI 9 (I_0 1)), (h_0_kept, eI cI 9 (I_0 2)), (h_0_column, eJ cJ 5 (L_0 0)), (h_0_size, eI cI 5 (I_0 3)), (h_0_hidden, eI cI 5 (I_0 4)), (h_0_cell, eI cI 2 (I_0 5)), (h_0_home, eI cI 4 (I_0 6)), (h_0_waste, eI cI 8 (I_0 7)), (h_0_stock, eI cI 8 (I_0 8)), (h_0_past, eJ cJ 1616 (L_0 1)), (h_0_start, eJ cJ 8 (L_0 2)), (h_0_known, eJ cJ 3216 (L_0 3)), (h_0_sorted, eJ cJ 3216 (L_0 4)), (h_0_row, eI cI 16 (I_0 9)), (h_0_best, eJ cJ 8 (L_0 5))] H locs → lv_has ls 6 [(0, .ref h_0), (1, .int v1), (2, .int v2), (3, .int v3)] → F_X6_hint_s38  K38 I_0 L_0 v1 v2 v3 = some (rv, r_I_0, r_L_0) → W p l e ({ frames := 7, cells := 0, slots := 0, locals := 173 } : Room) s m args below meth c H locs 0 0 Q (F0 m 38 ls []) := by
    intro K38 hK38 I_0 L_0 v1 v2 v3 H locs ls hS hl hF
    unfold F_X6_hint_s38 at hF
    refine lv_iload_n hx hb dX6_hint_38 rfl (lv_at hl 3 rfl) ?_
    refine lv_iload_n hx hb dX6_hint_39 rfl (lv_at hl 2 rfl) ?_
    refine lv_icmp_ge (tgt := 107) hx hb dX6_hint_40 (by decide) (fun c_1 => ?_) (fun c_1 => ?_)
    · replace hF := ifp hF c_1
      refine lv_iconst (v := (-1)) hx hb dX6_hint_107 (by decide) ?_
      have e9_0 := Option.some.inj hF
      obtain ⟨f9_0, e9_1⟩ := Prod.mk.inj e9_0
      obtain ⟨f9_1, e9_2⟩ := Prod.mk.inj e9_1
      subst f9_0
      subst f9_1
      subst e9_2
      exact kret _ _ _ _ hS dX6_hint_108
    · replace hF := ifn hF c_1
      refine lv_aload_n hx hb dX6_hint_43 rfl (lv_at hl 0 rfl) ?_
      refine lv_iload_n hx hb dX6_hint_44 rfl (lv_at hl 3 rfl) ?_
      replace hF := cal1_e hF
      obtain ⟨x2, hc3, hF⟩ := hF
      refine kV_i (As := [.int v3]) (rest := []) (wr := []) (w2 := [(h_0, oX6 h_0_of h_0_kept h_0_column h_0_size h_0_hidden h_0_cell h_0_home h_0_waste h_0_stock h_0_past h_0_start h_0_known h_0_sorted h_0_row h_0_best I_0), (h_0_of, eI cI 9 (I_0 1)), (h_0_kept, eI cI 9 (I_0 2)), (h_0_column, eJ cJ 5 (L_0 0)), (h_0_size, eI cI 5 (I_0 3)), (h_0_hidden, eI cI 5 (I_0 4)), (h_0_cell, eI cI 2 (I_0 5)), (h_0_home, eI cI 4 (I_0 6)), (h_0_waste, eI cI 8 (I_0 7)), (h_0_stock, eI cI 8 (I_0 8)), (h_0_past, eJ cJ 1616 (L_0 1)), (h_0_start, eJ cJ 8 (L_0 2)), (h_0_known, eJ cJ 3216 (L_0 3)), (h_0_sorted, eJ cJ 3216 (L_0 4)), (h_0_row, eI cI 16 (I_0 9)), (h_0_best, eJ cJ 8 (L_0 5))]) hCF hK (c_X6_find l D cI cJ h_0 h_0_of h_0_kept h_0_column h_0_size h_0_hidden h_0_cell h_0_home h_0_waste h_0_stock h_0_past h_0_start h_0_known h_0_sorted h_0_row h_0_best I_0 L_0 v3 x2 hc3) (cwV 1 hts (TBL_V mw_565 mw_566 mw_567 mw_5 mw_568) rfl rfl rfl pmX6_find ⟨Nat.le_of_ble_eq_true rfl, Nat.le_of_ble_eq_true rfl⟩) hS hA [0, 1, 2, 3, 4, 5, 6, 7, 8, 9, 10, 11, 12, 13, 14, 15] [] rfl rfl rfl rfl (by decide) rfl rfl rfl hl.1 rfl (Nat.le_of_ble_eq_true rfl) ⟨Nat.zero_le _, Nat.zero_le _⟩ dX6_hint_45 rfl (fun H locs hS => ?_)
      refine lv_istore (lv' := [(4, .int x2), (0, .ref h_0), (1, .int v1), (2, .int v2), (3, .int v3)]) hx hb dX6_hint_48 hl (by decide) rfl (fun ls hl => ?_)
      refine lv_aload_n hx hb dX6_hint_50 rfl (lv_at hl 1 rfl) ?_
      refine lv_iload hx hb dX6_hint_51 (lv_at hl 0 rfl) ?_
      refine lv_sipush (v := (nI 1000)) hx hb dX6_hint_53 (by decide) ?_
      replace hF := nz_e hF
      obtain ⟨hne4, hF⟩ := hF
      refine lv_idiv hx hb dX6_hint_56 hne4 ?_
      refine lv_iload hx hb dX6_hint_57 (lv_at hl 0 rfl) ?_
      refine lv_bipush (v := (nI 100)) hx hb dX6_hint_59 (by decide) ?_
      replace hF := nz_e hF
      obtain ⟨hne5, hF⟩ := hF
      refine lv_idiv hx hb dX6_hint_61 hne5 ?_
      refine lv_bipush (v := (nI 10)) hx hb dX6_hint_62 (by decide) ?_
      replace hF := nz_e hF
      obtain ⟨hne6, hF⟩ := hF
      refine lv_irem hx hb dX6_hint_64 hne6 ?_
      refine lv_iload hx hb dX6_hint_65 (lv_at hl 0 rfl) ?_
      refine lv_bipush (v := (nI 100)) hx hb dX6_hint_67 (by decide) ?_
      replace hF := nz_e hF
      obtain ⟨hne7, hF⟩ := hF
      refine lv_irem hx hb dX6_hint_69 hne7 ?_
      replace hF := cal2_e hF
      obtain ⟨I_0u8, L_0u9, hc10, hF⟩ := hF
      refine kV_v (As := [.int (x2 / (nI 1000)), .int ((x2 / (nI 100)) - (x2 / (nI 100)) / (nI 10) * (nI 10)), .int (x2 - x2 / (nI 100) * (nI 100))]) (rest := []) (wr := []) (w2 := [(h_0, oX6 h_0_of h_0_kept h_0_column h_0_size h_0_hidden h_0_cell h_0_home h_0_waste h_0_stock h_0_past h_0_start h_0_known h_0_sorted h_0_row h_0_best I_0u8), (h_0_of, eI cI 9 (I_0u8 1)), (h_0_kept, eI cI 9 (I_0u8 2)), (h_0_column, eJ cJ 5 (L_0u9 0)), (h_0_size, eI cI 5 (I_0u8 3)), (h_0_hidden, eI cI 5 (I_0u8 4)), (h_0_cell, eI cI 2 (I_0u8 5)), (h_0_home, eI cI 4 (I_0u8 6)), (h_0_waste, eI cI 8 (I_0u8 7)), (h_0_stock, eI cI 8 (I_0u8 8)), (h_0_past, eJ cJ 1616 (L_0u9 1)), (h_0_start, eJ cJ 8 (L_0u9 2)), (h_0_known, eJ cJ 3216 (L_0u9 3)), (h_0_sorted, eJ cJ 3216 (L_0u9 4)), (h_0_row, eI cI 16 (I_0u8 9)), (h_0_best, eJ cJ 8 (L_0u9 5))]) hCF hK (c_X6_play l D cI cJ h_0 h_0_of h_0_kept h_0_column h_0_size h_0_hidden h_0_cell h_0_home h_0_waste h_0_stock h_0_past h_0_start h_0_known h_0_sorted h_0_row h_0_best I_0 L_0 (x2 / (nI 1000)) ((x2 / (nI 100)) - (x2 / (nI 100)) / (nI 10) * (nI 10)) (x2 - x2 / (nI 100) * (nI 100)) I_0u8 L_0u9 hc10) (cwV 3 hts (TBL_V mw_489 mw_490 mw_491 mw_5 mw_492) rfl rfl rfl pmX6_play ⟨Nat.le_of_ble_eq_true rfl, Nat.le_of_ble_eq_true rfl⟩) hS hA [0, 1, 2, 3, 4, 5, 6, 7, 8, 9, 10, 11, 12, 13, 14, 15] [] rfl rfl rfl rfl (by decide) rfl rfl rfl hl.1 rfl (Nat.le_of_ble_eq_true rfl) ⟨Nat.zero_le _, Nat.zero_le _⟩ dX6_hint_70 rfl (fun H locs hS => ?_)
      refine lv_aload_n hx hb dX6_hint_73 rfl (lv_at hl 1 rfl) ?_
      refine lv_bipush (v := (nI 100)) hx hb dX6_hint_74 (by decide) ?_
      replace hF := cal3_e hF
      obtain ⟨x11, I_0u12, L_0u13, hc14, hF⟩ := hF
      refine kV_i (As := [.int (nI 100)]) (rest := []) (wr := []) (w2 := [(h_0, oX6 h_0_of h_0_kept h_0_column h_0_size h_0_hidden h_0_cell h_0_home h_0_waste h_0_stock h_0_past h_0_start h_0_known h_0_sorted h_0_row h_0_best I_0u12), (h_0_of, eI cI 9 (I_0u12 1)), (h_0_kept, eI cI 9 (I_0u12 2)), (h_0_column, eJ cJ 5 (L_0u13 0)), (h_0_size, eI cI 5 (I_0u12 3)), (h_0_hidden, eI cI 5 (I_0u12 4)), (h_0_cell, eI cI 2 (I_0u12 5)), (h_0_home, eI cI 4 (I_0u12 6)), (h_0_waste, eI cI 8 (I_0u12 7)), (h_0_stock, eI cI 8 (I_0u12 8)), (h_0_past, eJ cJ 1616 (L_0u13 1)), (h_0_start, eJ cJ 8 (L_0u13 2)), (h_0_known, eJ cJ 3216 (L_0u13 3)), (h_0_sorted, eJ cJ 3216 (L_0u13 4)), (h_0_row, eI cI 16 (I_0u12 9)), (h_0_best, eJ cJ 8 (L_0u13 5))]) hCF hK (c_X6_look l D cI cJ h_0 h_0_of h_0_kept h_0_column h_0_size h_0_hidden h_0_cell h_0_home h_0_waste h_0_stock h_0_past h_0_start h_0_known h_0_sorted h_0_row h_0_best I_0u8 L_0u9 (nI 100) x11 I_0u12 L_0u13 hc14) (cwV 1 hts (TBL_V mw_693 mw_694 mw_695 mw_5 mw_696) rfl rfl rfl pmX6_look ⟨Nat.le_of_ble_eq_true rfl, Nat.le_of_ble_eq_true rfl⟩) hS hA [0, 1, 2, 3, 4, 5, 6, 7, 8, 9, 10, 11, 12, 13, 14, 15] [] rfl rfl rfl rfl (by decide) rfl rfl rfl hl.1 rfl (Nat.le_of_ble_eq_true rfl) ⟨Nat.zero_le _, Nat.zero_le _⟩ dX6_hint_76 rfl (fun H locs hS => ?_)
      refine lv_istore (lv' := [(5, .int x11), (4, .int x2), (0, .ref h_0), (1, .int v1), (2, .int v2), (3, .int v3)]) hx hb dX6_hint_79 hl (by decide) rfl (fun ls hl => ?_)
      refine lv_aload_n hx hb dX6_hint_81 rfl (lv_at hl 2 rfl) ?_
      refine lv_aload_n hx hb dX6_hint_82 rfl (lv_at hl 2 rfl) ?_
      refine r_get hx hb hts inX6 hown hK hS 0 26 rfl rfl (by decide) q0 rfl dX6_hint_83 ?_
      refine lv_iconst (v := (nI 0)) hx hb dX6_hint_86 (by decide) ?_
      replace hF := cal2_e hF
      obtain ⟨I_0u15, L_0u16, hc17, hF⟩ := hF
      refine kV_v (As := [.ref h_0_start, .int (nI 0)]) (rest := []) (wr := []) (w2 := [(h_0, oX6 h_0_of h_0_kept h_0_column h_0_size h_0_hidden h_0_cell h_0_home h_0_waste h_0_stock h_0_past h_0_start h_0_known h_0_sorted h_0_row h_0_best I_0u15), (h_0_of, eI cI 9 (I_0u15 1)), (h_0_kept, eI cI 9 (I_0u15 2)), (h_0_column, eJ cJ 5 (L_0u16 0)), (h_0_size, eI cI 5 (I_0u15 3)), (h_0_hidden, eI cI 5 (I_0u15 4)), (h_0_cell, eI cI 2 (I_0u15 5)), (h_0_home, eI cI 4 (I_0u15 6)), (h_0_waste, eI cI 8 (I_0u15 7)), (h_0_stock, eI cI 8 (I_0u15 8)), (h_0_past, eJ cJ 1616 (L_0u16 1)), (h_0_start, eJ cJ 8 (L_0u16 2)), (h_0_known, eJ cJ 3216 (L_0u16 3)), (h_0_sorted, eJ cJ 3216 (L_0u16 4)), (h_0_row, eI cI 16 (I_0u15 9)), (h_0_best, eJ cJ 8 (L_0u16 5))]) hCF hK (c_X6_load_start l D cI cJ h_0 h_0_of h_0_kept h_0_column h_0_size h_0_hidden h_0_cell h_0_home h_0_waste h_0_stock h_0_past h_0_start h_0_known h_0_sorted h_0_row h_0_best I_0u12 L_0u13 (nI 0) I_0u15 L_0u16 hc17) (cwV 2 hts (TBL_V mw_331 mw_332 mw_333 mw_5 mw_334) rfl rfl rfl pmX6_load ⟨Nat.le_of_ble_eq_true rfl, Nat.le_of_ble_eq_true rfl⟩) hS hA [0, 1, 2, 3, 4, 5, 6, 7, 8, 9, 10, 11, 12, 13, 14, 15] [] rfl rfl rfl rfl (by decide) rfl rfl rfl hl.1 rfl (Nat.le_of_ble_eq_true rfl) ⟨Nat.zero_le _, Nat.zero_le _⟩ dX6_hint_87 rfl (fun H locs hS => ?_)
      refine lv_iload hx hb dX6_hint_90 (lv_at hl 0 rfl) ?_
      refine lv_iload_n hx hb dX6_hint_92 rfl (lv_at hl 3 rfl) ?_
      refine lv_iconst (v := (nI 1)) hx hb dX6_hint_93 (by decide) ?_
      refine lv_isub hx hb dX6_hint_94 ?_
      refine lv_icmp_ne (tgt := 101) hx hb dX6_hint_95 (by decide) (fun c_18 => ?_) (fun c_18 => ?_)
      · replace hF := ifn hF c_18
        refine lv_iinc (v := v3 + (nI 1)) (lv' := [(3, .int (v3 + (nI 1))), (5, .int x11), (4, .int x2), (0, .ref h_0), (1, .int v1), (2, .int v2)]) hx hb dX6_hint_101 hl (k := 5) rfl rfl (by decide) rfl (fun ls hl => ?_)
        refine lv_goto (tgt := 38) hx hb dX6_hint_104 (by decide) ?_
        exact hK38 I_0u15 L_0u16 v1 v2 (v3 + (nI 1)) _ _ _ hS (lv_sub hl [3, 4, 5, 0] rfl) hF
      · replace hF := ifp hF c_18
        refine lv_iload hx hb dX6_hint_98 (lv_at hl 1 rfl) ?_
        have e9_0 := Option.some.inj hF
        obtain ⟨f9_0, e9_1⟩ := Prod.mk.inj e9_0
        obtain ⟨f9_1, e9_2⟩ := Prod.mk.inj e9_1
        subst f9_0
        subst f9_1
        subst e9_2
        exact kret _ _ _ _ hS dX6_hint_100
  have L38 : ∀  (n : Nat) (I_0 : Nat → Nat → Int32) (L_0 : Nat → Nat → Int64) (v1 : Int32) (v2 : Int32) (v3 : Int32) (H : Heap) (locs : List Loc) (ls : Array Slot), HS D A H0 [(h_0, oX6 h_0_of h_0_kept h_0_column h_0_size h_0_hidden h_0_cell h_0_home h_0_waste h_0_stock h_0_past h_0_start h_0_known h_0_sorted h_0_row h_0_best I_0), (h_0_of, eI cI 9 (I_0 1)), (h_0_kept, eI cI 9 (I_0 2)), (h_0_column, eJ cJ 5 (L_0 0)), (h_0_size, eI cI 5 (I_0 3)), (h_0_hidden, eI cI 5 (I_0 4)), (h_0_cell, eI cI 2 (I_0 5)), (h_0_home, eI cI 4 (I_0 6)), (h_0_waste, eI cI 8 (I_0 7)), (h_0_stock, eI cI 8 (I_0 8)), (h_0_past, eJ cJ 1616 (L_0 1)), (h_0_start, eJ cJ 8 (L_0 2)), (h_0_known, eJ cJ 3216 (L_0 3)), (h_0_sorted, eJ cJ 3216 (L_0 4)), (h_0_row, eI cI 16 (I_0 9)), (h_0_best, eJ cJ 8 (L_0 5))] H locs → lv_has ls 6 [(0, .ref h_0), (1, .int v1), (2, .int v2), (3, .int v3)] → F_X6_hint_L38   n I_0 L_0 v1 v2 v3 = some (rv, r_I_0, r_L_0) → W p l e ({ frames := 7, cells := 0, slots := 0, locals := 173 } : Room) s m args below meth c H locs 0 0 Q (F0 m 38 ls []) := by
    intro  n
    induction n with
    | zero => intro I_0 L_0 v1 v2 v3 H locs ls hS hl hF; exact nomatch (show (none : Option (Int32 × (Nat → Nat → Int32) × (Nat → Nat → Int64))) = some _ from hF)
    | succ n ih => intro I_0 L_0 v1 v2 v3 H locs ls hS hl hF; exact S38  _ ih I_0 L_0 v1 v2 v3 H locs ls hS hl hF
  unfold F_X6_hint at hF
  refine lv_aload_n hx hb dX6_hint_0 rfl (lv_at hl 0 rfl) ?_
  refine lv_iconst (v := (nI 0)) hx hb dX6_hint_1 (by decide) ?_
  replace hF := bnd_e hF
  obtain ⟨I_0u19, eI_0u19, hF⟩ := hF
  refine r_put (w2 := [(h_0, oX6 h_0_of h_0_kept h_0_column h_0_size h_0_hidden h_0_cell h_0_home h_0_waste h_0_stock h_0_past h_0_start h_0_known h_0_sorted h_0_row h_0_best I_0u19), (h_0_of, eI cI 9 (I_0u19 1)), (h_0_kept, eI cI 9 (I_0u19 2)), (h_0_column, eJ cJ 5 (L_0 0)), (h_0_size, eI cI 5 (I_0u19 3)), (h_0_hidden, eI cI 5 (I_0u19 4)), (h_0_cell, eI cI 2 (I_0u19 5)), (h_0_home, eI cI 4 (I_0u19 6)), (h_0_waste, eI cI 8 (I_0u19 7)), (h_0_stock, eI cI 8 (I_0u19 8)), (h_0_past, eJ cJ 1616 (L_0 1)), (h_0_start, eJ cJ 8 (L_0 2)), (h_0_known, eJ cJ 3216 (L_0 3)), (h_0_sorted, eJ cJ 3216 (L_0 4)), (h_0_row, eI cI 16 (I_0u19 9)), (h_0_best, eJ cJ 8 (L_0 5))]) hx hb hts inX6 tyX6 tyX6_ok nmX6 hown hK hS 0 0 rfl rfl (by decide) q2 rfl rfl rfl (Nat.le_of_ble_eq_true rfl) dX6_hint_2 (by rw [eI_0u19]; rfl) (fun H locs hS => ?_)
  refine lv_aload_n hx hb dX6_hint_5 rfl (lv_at hl 0 rfl) ?_
  refine lv_bipush (v := (nI 100)) hx hb dX6_hint_6 (by decide) ?_
  replace hF := cal3_e hF
  obtain ⟨x20, I_0u21, L_0u22, hc23, hF⟩ := hF
  refine kV_i (As := [.int (nI 100)]) (rest := []) (wr := []) (w2 := [(h_0, oX6 h_0_of h_0_kept h_0_column h_0_size h_0_hidden h_0_cell h_0_home h_0_waste h_0_stock h_0_past h_0_start h_0_known h_0_sorted h_0_row h_0_best I_0u21), (h_0_of, eI cI 9 (I_0u21 1)), (h_0_kept, eI cI 9 (I_0u21 2)), (h_0_column, eJ cJ 5 (L_0u22 0)), (h_0_size, eI cI 5 (I_0u21 3)), (h_0_hidden, eI cI 5 (I_0u21 4)), (h_0_cell, eI cI 2 (I_0u21 5)), (h_0_home, eI cI 4 (I_0u21 6)), (h_0_waste, eI cI 8 (I_0u21 7)), (h_0_stock, eI cI 8 (I_0u21 8)), (h_0_past, eJ cJ 1616 (L_0u22 1)), (h_0_start, eJ cJ 8 (L_0u22 2)), (h_0_known, eJ cJ 3216 (L_0u22 3)), (h_0_sorted, eJ cJ 3216 (L_0u22 4)), (h_0_row, eI cI 16 (I_0u21 9)), (h_0_best, eJ cJ 8 (L_0u22 5))]) hCF hK (c_X6_look l D cI cJ h_0 h_0_of h_0_kept h_0_column h_0_size h_0_hidden h_0_cell h_0_home h_0_waste h_0_stock h_0_past h_0_start h_0_known h_0_sorted h_0_row h_0_best I_0u19 L_0 (nI 100) x20 I_0u21 L_0u22 hc23) (cwV 1 hts (TBL_V mw_693 mw_694 mw_695 mw_5 mw_696) rfl rfl rfl pmX6_look ⟨Nat.le_of_ble_eq_true rfl, Nat.le_of_ble_eq_true rfl⟩) hS hA [0, 1, 2, 3, 4, 5, 6, 7, 8, 9, 10, 11, 12, 13, 14, 15] [] rfl rfl rfl rfl (by decide) rfl rfl rfl hl.1 rfl (Nat.le_of_ble_eq_true rfl) ⟨Nat.zero_le _, Nat.zero_le _⟩ dX6_hint_8 rfl (fun H locs hS => ?_)
  refine lv_istore_n (lv' := [(1, .int x20), (0, .ref h_0)]) hx hb dX6_hint_11 rfl hl (by decide) rfl (fun ls hl => ?_)
  refine lv_iload_n hx hb dX6_hint_12 rfl (lv_at hl 0 rfl) ?_
  refine lv_iconst (v := (nI 1)) hx hb dX6_hint_13 (by decide) ?_
  refine lv_icmp_ge (tgt := 19) hx hb dX6_hint_14 (by decide) (fun c_24 => ?_) (fun c_24 => ?_)
  · replace hF := ifp hF c_24
    refine lv_aload_n hx hb dX6_hint_19 rfl (lv_at hl 1 rfl) ?_
    refine lv_aload_n hx hb dX6_hint_20 rfl (lv_at hl 1 rfl) ?_
    refine r_get hx hb hts inX6 hown hK hS 0 26 rfl rfl (by decide) q0 rfl dX6_hint_21 ?_
    refine lv_iconst (v := (nI 0)) hx hb dX6_hint_24 (by decide) ?_
    replace hF := cal1_e hF
    obtain ⟨L_0u25, hc26, hF⟩ := hF
    refine kV_v (As := [.ref h_0_start, .int (nI 0)]) (rest := []) (wr := []) (w2 := [(h_0, oX6 h_0_of h_0_kept h_0_column h_0_size h_0_hidden h_0_cell h_0_home h_0_waste h_0_stock h_0_past h_0_start h_0_known h_0_sorted h_0_row h_0_best I_0u21), (h_0_of, eI cI 9 (I_0u21 1)), (h_0_kept, eI cI 9 (I_0u21 2)), (h_0_column, eJ cJ 5 (L_0u25 0)), (h_0_size, eI cI 5 (I_0u21 3)), (h_0_hidden, eI cI 5 (I_0u21 4)), (h_0_cell, eI cI 2 (I_0u21 5)), (h_0_home, eI cI 4 (I_0u21 6)), (h_0_waste, eI cI 8 (I_0u21 7)), (h_0_stock, eI cI 8 (I_0u21 8)), (h_0_past, eJ cJ 1616 (L_0u25 1)), (h_0_start, eJ cJ 8 (L_0u25 2)), (h_0_known, eJ cJ 3216 (L_0u25 3)), (h_0_sorted, eJ cJ 3216 (L_0u25 4)), (h_0_row, eI cI 16 (I_0u21 9)), (h_0_best, eJ cJ 8 (L_0u25 5))]) hCF hK (c_X6_store_start l D cI cJ h_0 h_0_of h_0_kept h_0_column h_0_size h_0_hidden h_0_cell h_0_home h_0_waste h_0_stock h_0_past h_0_start h_0_known h_0_sorted h_0_row h_0_best I_0u21 L_0u22 (nI 0) L_0u25 hc26) (cwV 2 hts (TBL_V mw_209 mw_210 mw_211 mw_5 mw_212) rfl rfl rfl pmX6_store ⟨Nat.le_of_ble_eq_true rfl, Nat.le_of_ble_eq_true rfl⟩) hS hA [0, 1, 2, 3, 4, 5, 6, 7, 8, 9, 10, 11, 12, 13, 14, 15] [] rfl rfl rfl rfl (by decide) rfl rfl rfl hl.1 rfl (Nat.le_of_ble_eq_true rfl) ⟨Nat.zero_le _, Nat.zero_le _⟩ dX6_hint_25 rfl (fun H locs hS => ?_)
    refine lv_iconst (v := (-1)) hx hb dX6_hint_28 (by decide) ?_
    refine lv_aload_n hx hb dX6_hint_29 rfl (lv_at hl 1 rfl) ?_
    refine lv_iconst (v := (-1)) hx hb dX6_hint_30 (by decide) ?_
    replace hF := cal1_e hF
    obtain ⟨x27, hc28, hF⟩ := hF
    refine kV_i (As := [.int (-1)]) (rest := [.int (-1)]) (wr := []) (w2 := [(h_0, oX6 h_0_of h_0_kept h_0_column h_0_size h_0_hidden h_0_cell h_0_home h_0_waste h_0_stock h_0_past h_0_start h_0_known h_0_sorted h_0_row h_0_best I_0u21), (h_0_of, eI cI 9 (I_0u21 1)), (h_0_kept, eI cI 9 (I_0u21 2)), (h_0_column, eJ cJ 5 (L_0u25 0)), (h_0_size, eI cI 5 (I_0u21 3)), (h_0_hidden, eI cI 5 (I_0u21 4)), (h_0_cell, eI cI 2 (I_0u21 5)), (h_0_home, eI cI 4 (I_0u21 6)), (h_0_waste, eI cI 8 (I_0u21 7)), (h_0_stock, eI cI 8 (I_0u21 8)), (h_0_past, eJ cJ 1616 (L_0u25 1)), (h_0_start, eJ cJ 8 (L_0u25 2)), (h_0_known, eJ cJ 3216 (L_0u25 3)), (h_0_sorted, eJ cJ 3216 (L_0u25 4)), (h_0_row, eI cI 16 (I_0u21 9)), (h_0_best, eJ cJ 8 (L_0u25 5))]) hCF hK (c_X6_find l D cI cJ h_0 h_0_of h_0_kept h_0_column h_0_size h_0_hidden h_0_cell h_0_home h_0_waste h_0_stock h_0_past h_0_start h_0_known h_0_sorted h_0_row h_0_best I_0u21 L_0u25 (-1) x27 hc28) (cwV 1 hts (TBL_V mw_565 mw_566 mw_567 mw_5 mw_568) rfl rfl rfl pmX6_find ⟨Nat.le_of_ble_eq_true rfl, Nat.le_of_ble_eq_true rfl⟩) hS hA [0, 1, 2, 3, 4, 5, 6, 7, 8, 9, 10, 11, 12, 13, 14, 15] [] rfl rfl rfl rfl (by decide) rfl rfl rfl hl.1 rfl (Nat.le_of_ble_eq_true rfl) ⟨Nat.zero_le _, Nat.zero_le _⟩ dX6_hint_31 rfl (fun H locs hS => ?_)
    refine lv_isub hx hb dX6_hint_34 ?_
    refine lv_istore_n (lv' := [(2, .int ((-1) - x27)), (1, .int x20), (0, .ref h_0)]) hx hb dX6_hint_35 rfl hl (by decide) rfl (fun ls hl => ?_)
    refine lv_iconst (v := (nI 0)) hx hb dX6_hint_36 (by decide) ?_
    refine lv_istore_n (lv' := [(3, .int (nI 0)), (2, .int ((-1) - x27)), (1, .int x20), (0, .ref h_0)]) hx hb dX6_hint_37 rfl hl (by decide) rfl (fun ls hl => ?_)
    exact L38 FU I_0u21 L_0u25 x20 ((-1) - x27) (nI 0) _ _ _ hS (lv_sub hl [3, 2, 1, 0] rfl) hF
  · replace hF := ifn hF c_24
    refine lv_iconst (v := (-1)) hx hb dX6_hint_17 (by decide) ?_
    have e9_0 := Option.some.inj hF
    obtain ⟨f9_0, e9_1⟩ := Prod.mk.inj e9_0
    obtain ⟨f9_1, e9_2⟩ := Prod.mk.inj e9_1
    subst f9_0
    subst f9_1
    subst e9_2
    exact kret _ _ _ _ hS dX6_hint_18
set_option maxHeartbeats 4000000 in
set_option maxRecDepth 100000 in
theorem c_X6_odds (l : Launch) (D : va_G) (cI cJ : ClassId) (h_0 h_0_of h_0_kept h_0_column h_0_size h_0_hidden h_0_cell h_0_home h_0_waste h_0_stock h_0_past h_0_start h_0_known h_0_sorted h_0_row h_0_best : Nat) (I_0 : Nat → Nat → Int32) (L_0 : Nat → Nat → Int64) (v1 : Int32) (v2 : Int32) (v3 : Int32) (v4 : Int32) (rv : Int32) (r_I_0 : Nat → Nat → Int32) (r_L_0 : Nat → Nat → Int64) (hF : F_X6_odds I_0 L_0 v1 v2 v3 v4 = some (rv, r_I_0, r_L_0)) : CtI l D [(cI, .int), (cJ, .long)] yX6_odds wtX6_odds ({ frames := 7, cells := 0, slots := 0, locals := 173 } : Room) [.ref h_0, .int v1, .int v2, .int v3, .int v4] [(h_0, oX6 h_0_of h_0_kept h_0_column h_0_size h_0_hidden h_0_cell h_0_home h_0_waste h_0_stock h_0_past h_0_start h_0_known h_0_sorted h_0_row h_0_best I_0), (h_0_of, eI cI 9 (I_0 1)), (h_0_kept, eI cI 9 (I_0 2)), (h_0_column, eJ cJ 5 (L_0 0)), (h_0_size, eI cI 5 (I_0 3)), (h_0_hidden, eI cI 5 (I_0 4)), (h_0_cell, eI cI 2 (I_0 5)), (h_0_home, eI cI 4 (I_0 6)), (h_0_waste, eI cI 8 (I_0 7)), (h_0_stock, eI cI 8 (I_0 8)), (h_0_past, eJ cJ 1616 (L_0 1)), (h_0_start, eJ cJ 8 (L_0 2)), (h_0_known, eJ cJ 3216 (L_0 3)), (h_0_sorted, eJ cJ 3216 (L_0 4)), (h_0_row, eI cI 16 (I_0 9)), (h_0_best, eJ cJ 8 (L_0 5))] [(h_0, oX6 h_0_of h_0_kept h_0_column h_0_size h_0_hidden h_0_cell h_0_home h_0_waste h_0_stock h_0_past h_0_start h_0_known h_0_sorted h_0_row h_0_best r_I_0), (h_0_of, eI cI 9 (r_I_0 1)), (h_0_kept, eI cI 9 (r_I_0 2)), (h_0_column, eJ cJ 5 (r_L_0 0)), (h_0_size, eI cI 5 (r_I_0 3)), (h_0_hidden, eI cI 5 (r_I_0 4)), (h_0_cell, eI cI 2 (r_I_0 5)), (h_0_home, eI cI 4 (r_I_0 6)), (h_0_waste, eI cI 8 (r_I_0 7)), (h_0_stock, eI cI 8 (r_I_0 8)), (h_0_past, eJ cJ 1616 (r_L_0 1)), (h_0_start, eJ cJ 8 (r_L_0 2)), (h_0_known, eJ cJ 3216 (r_L_0 3)), (h_0_sorted, eJ cJ 3216 (r_L_0 4)), (h_0_row, eI cI 16 (r_I_0 9)), (h_0_best, eJ cJ 8 (r_L_0 5))] rv := by
  refine CtI.of (cc := cX6_odds) (maxL := 10) (by decide) rfl (Nat.le_of_ble_eq_true rfl) ?_
  intro p e s m args below meth c A H0 Q ls X hS hl kret
  have hCF := X.1
  obtain ⟨⟨hx, hb, hml, hown, hts⟩, hK, hA⟩ := X
  have hl : lv_has ls 10 [(0, .ref h_0), (1, .int v1), (2, .int v2), (3, .int v3), (4, .int v4)] := hl
  have q0 := hts (.fieldLink RX6 57 "PatienceryModel" "start" "[J") (List.mem_cons_of_mem _ mw_171)
  have inX6 : ∀ w ∈ u_ws RX6 TX6 32, w ∈ wtX6_odds := fun w h => List.mem_cons_of_mem _ (inlX6 w h)
  have q2 := hts (.fieldLink RX6 25 "PatienceryModel" "of" "[I") (List.mem_cons_of_mem _ mw_161)
  have q3 := hts (.fieldLink RX6 29 "PatienceryModel" "kept" "[I") (List.mem_cons_of_mem _ mw_162)
  have q4 := hts (.constant RX6 140 (1000000)) (List.mem_cons_of_mem _ mw_303)
  have B209 : ∀ (I_0 : Nat → Nat → Int32) (L_0 : Nat → Nat → Int64) (v6 : Int32) (v7 : Int32) (H : Heap) (locs : List Loc) (ls : Array Slot), HS D A H0 [(h_0, oX6 h_0_of h_0_kept h_0_column h_0_size h_0_hidden h_0_cell h_0_home h_0_waste h_0_stock h_0_past h_0_start h_0_known h_0_sorted h_0_row h_0_best I_0), (h_0_of, eI cI 9 (I_0 1)), (h_0_kept, eI cI 9 (I_0 2)), (h_0_column, eJ cJ 5 (L_0 0)), (h_0_size, eI cI 5 (I_0 3)), (h_0_hidden, eI cI 5 (I_0 4)), (h_0_cell, eI cI 2 (I_0 5)), (h_0_home, eI cI 4 (I_0 6)), (h_0_waste, eI cI 8 (I_0 7)), (h_0_stock, eI cI 8 (I_0 8)), (h_0_past, eJ cJ 1616 (L_0 1)), (h_0_start, eJ cJ 8 (L_0 2)), (h_0_known, eJ cJ 3216 (L_0 3)), (h_0_sorted, eJ cJ 3216 (L_0 4)), (h_0_row, eI cI 16 (I_0 9)), (h_0_best, eJ cJ 8 (L_0 5))] H locs → lv_has ls 10 [(0, .ref h_0), (6, .int v6), (7, .int v7)] → F_X6_odds_b209   I_0 L_0 v6 v7 = some (rv, r_I_0, r_L_0) → W p l e ({ frames := 7, cells := 0, slots := 0, locals := 173 } : Room) s m args below meth c H locs 0 0 Q (F0 m 209 ls []) := by
    intro I_0 L_0 v6 v7 H locs ls hS hl hF
    unfold F_X6_odds_b209 at hF
    refine lv_aload_n hx hb dX6_odds_209 rfl (lv_at hl 0 rfl) ?_
    refine lv_aload_n hx hb dX6_odds_210 rfl (lv_at hl 0 rfl) ?_
    refine r_get hx hb hts inX6 hown hK hS 0 26 rfl rfl (by decide) q0 rfl dX6_odds_211 ?_
    refine lv_iconst (v := (nI 0)) hx hb dX6_odds_214 (by decide) ?_
    replace hF := cal2_e hF
    obtain ⟨I_0u1, L_0u2, hc3, hF⟩ := hF
    refine kV_v (As := [.ref h_0_start, .int (nI 0)]) (rest := []) (wr := []) (w2 := [(h_0, oX6 h_0_of h_0_kept h_0_column h_0_size h_0_hidden h_0_cell h_0_home h_0_waste h_0_stock h_0_past h_0_start h_0_known h_0_sorted h_0_row h_0_best I_0u1), (h_0_of, eI cI 9 (I_0u1 1)), (h_0_kept, eI cI 9 (I_0u1 2)), (h_0_column, eJ cJ 5 (L_0u2 0)), (h_0_size, eI cI 5 (I_0u1 3)), (h_0_hidden, eI cI 5 (I_0u1 4)), (h_0_cell, eI cI 2 (I_0u1 5)), (h_0_home, eI cI 4 (I_0u1 6)), (h_0_waste, eI cI 8 (I_0u1 7)), (h_0_stock, eI cI 8 (I_0u1 8)), (h_0_past, eJ cJ 1616 (L_0u2 1)), (h_0_start, eJ cJ 8 (L_0u2 2)), (h_0_known, eJ cJ 3216 (L_0u2 3)), (h_0_sorted, eJ cJ 3216 (L_0u2 4)), (h_0_row, eI cI 16 (I_0u1 9)), (h_0_best, eJ cJ 8 (L_0u2 5))]) hCF hK (c_X6_load_start l D cI cJ h_0 h_0_of h_0_kept h_0_column h_0_size h_0_hidden h_0_cell h_0_home h_0_waste h_0_stock h_0_past h_0_start h_0_known h_0_sorted h_0_row h_0_best I_0 L_0 (nI 0) I_0u1 L_0u2 hc3) (cwV 2 hts (TBL_V mw_331 mw_332 mw_333 mw_5 mw_334) rfl rfl rfl pmX6_load ⟨Nat.le_of_ble_eq_true rfl, Nat.le_of_ble_eq_true rfl⟩) hS hA [0, 1, 2, 3, 4, 5, 6, 7, 8, 9, 10, 11, 12, 13, 14, 15] [] rfl rfl rfl rfl (by decide) rfl rfl rfl hl.1 rfl (Nat.le_of_ble_eq_true rfl) ⟨Nat.zero_le _, Nat.zero_le _⟩ dX6_odds_215 rfl (fun H locs hS => ?_)
    refine lv_bipush (v := (nI 10)) hx hb dX6_odds_218 (by decide) ?_
    refine lv_iload hx hb dX6_odds_220 (lv_at hl 1 rfl) ?_
    refine lv_imul hx hb dX6_odds_222 ?_
    refine lv_iload hx hb dX6_odds_223 (lv_at hl 2 rfl) ?_
    refine lv_iadd hx hb dX6_odds_225 ?_
    have e9_0 := Option.some.inj hF
    obtain ⟨f9_0, e9_1⟩ := Prod.mk.inj e9_0
    obtain ⟨f9_1, e9_2⟩ := Prod.mk.inj e9_1
    subst f9_0
    subst f9_1
    subst e9_2
    exact kret _ _ _ _ hS dX6_odds_226
  have S182 : ∀ (K182 : (Nat → Nat → Int32) → (Nat → Nat → Int64) → Int32 → Int32 → Int32 → Option (Int32 × (Nat → Nat → Int32) × (Nat → Nat → Int64))) (_ : ∀ (I_0 : Nat → Nat → Int32) (L_0 : Nat → Nat → Int64) (v6 : Int32) (v7 : Int32) (v8 : Int32) (H : Heap) (locs : List Loc) (ls : Array Slot), HS D A H0 [(h_0, oX6 h_0_of h_0_kept h_0_column h_0_size h_0_hidden h_0_cell h_0_home h_0_waste h_0_stock h_0_past h_0_start h_0_known h_0_sorted h_0_row h_0_best I_0), (h_0_of, eI cI 9 (I_0 1)), (h_0_kept, eI cI 9 (I_0 2)), (h_0_column, eJ cJ 5 (L_0 0)), (h_0_size, eI cI 5 (I_0 3)), (h_0_hidden, eI cI 5 (I_0 4)), (h_0_cell, eI cI 2 (I_0 5)), (h_0_home, eI cI 4 (I_0 6)), (h_0_waste, eI cI 8 (I_0 7)), (h_0_stock, eI cI 8 (I_0 8)), (h_0_past, eJ cJ 1616 (L_0 1)), (h_0_start, eJ cJ 8 (L_0 2)), (h_0_known, eJ cJ 3216 (L_0 3)), (h_0_sorted, eJ cJ 3216 (L_0 4)), (h_0_row, eI cI 16 (I_0 9)), (h_0_best, eJ cJ 8 (L_0 5))] H locs → lv_has ls 10 [(0, .ref h_0), (6, .int v6), (7, .int v7), (8, .int v8)] → K182 I_0 L_0 v6 v7 v8 = some (rv, r_I_0, r_L_0) → W p l e ({ frames := 7, cells := 0, slots := 0, locals := 173 } : Room) s m args below meth c H locs 0 0 Q (F0 m 182 ls [])) (I_0 : Nat → Nat → Int32) (L_0 : Nat → Nat → Int64) (v6 : Int32) (v7 : Int32) (v8 : Int32) (H : Heap) (locs : List Loc) (ls : Array Slot), HS D A H0 [(h_0, oX6 h_0_of h_0_kept h_0_column h_0_size h_0_hidden h_0_cell h_0_home h_0_waste h_0_stock h_0_past h_0_start h_0_known h_0_sorted h_0_row h_0_best I_0), (h_0_of, eI cI 9 (I_0 1)), (h_0_kept, eI cI 9 (I_0 2)), (h_0_column, eJ cJ 5 (L_0 0)), (h_0_size, eI cI 5 (I_0 3)), (h_0_hidden, eI cI 5 (I_0 4)), (h_0_cell, eI cI 2 (I_0 5)), (h_0_home, eI cI 4 (I_0 6)), (h_0_waste, eI cI 8 (I_0 7)), (h_0_stock, eI cI 8 (I_0 8)), (h_0_past, eJ cJ 1616 (L_0 1)), (h_0_start, eJ cJ 8 (L_0 2)), (h_0_known, eJ cJ 3216 (L_0 3)), (h_0_sorted, eJ cJ 3216 (L_0 4)), (h_0_row, eI cI 16 (I_0 9)), (h_0_best, eJ cJ 8 (L_0 5))] H locs → lv_has ls 10 [(0, .ref h_0), (6, .int v6), (7, .int v7), (8, .int v8)] → F_X6_odds_s182  K182 I_0 L_0 v6 v7 v8 = some (rv, r_I_0, r_L_0) → W p l e ({ frames := 7, cells := 0, slots := 0, locals := 173 } : Room) s m args below meth c H locs 0 0 Q (F0 m 182 ls []) := by
    intro K182 hK182 I_0 L_0 v6 v7 v8 H locs ls hS hl hF
    unfold F_X6_odds_s182 at hF
    refine lv_iload hx hb dX6_odds_182 (lv_at hl 3 rfl) ?_
    refine lv_bipush (v := (nI 9)) hx hb dX6_odds_184 (by decide) ?_
    refine lv_icmp_ge (tgt := 209) hx hb dX6_odds_186 (by decide) (fun c_4 => ?_) (fun c_4 => ?_)
    · replace hF := ifp hF c_4
      exact B209 I_0 L_0 v6 v7 _ _ _ hS (lv_sub hl [0, 1, 2] rfl) hF
    · replace hF := ifn hF c_4
      refine lv_aload_n hx hb dX6_odds_189 rfl (lv_at hl 0 rfl) ?_
      refine r_get hx hb hts inX6 hown hK hS 0 10 rfl rfl (by decide) q2 rfl dX6_odds_190 ?_
      refine lv_iload hx hb dX6_odds_193 (lv_at hl 3 rfl) ?_
      refine lv_aload_n hx hb dX6_odds_195 rfl (lv_at hl 0 rfl) ?_
      refine r_get hx hb hts inX6 hown hK hS 0 11 rfl rfl (by decide) q3 rfl dX6_odds_196 ?_
      refine lv_iload hx hb dX6_odds_199 (lv_at hl 3 rfl) ?_
      replace hF := rdA_e hF
      obtain ⟨hi6, x5, ex5, hF⟩ := hF
      refine r_iald hx hb hK hS 2 rfl rfl hi6 dX6_odds_201 ex5 ?_
      replace hF := wrA_e hF
      obtain ⟨hi8, I_0u7, eI_0u7, hF⟩ := hF
      refine r_iast (w2 := [(h_0, oX6 h_0_of h_0_kept h_0_column h_0_size h_0_hidden h_0_cell h_0_home h_0_waste h_0_stock h_0_past h_0_start h_0_known h_0_sorted h_0_row h_0_best I_0u7), (h_0_of, eI cI 9 (I_0u7 1)), (h_0_kept, eI cI 9 (I_0u7 2)), (h_0_column, eJ cJ 5 (L_0 0)), (h_0_size, eI cI 5 (I_0u7 3)), (h_0_hidden, eI cI 5 (I_0u7 4)), (h_0_cell, eI cI 2 (I_0u7 5)), (h_0_home, eI cI 4 (I_0u7 6)), (h_0_waste, eI cI 8 (I_0u7 7)), (h_0_stock, eI cI 8 (I_0u7 8)), (h_0_past, eJ cJ 1616 (L_0 1)), (h_0_start, eJ cJ 8 (L_0 2)), (h_0_known, eJ cJ 3216 (L_0 3)), (h_0_sorted, eJ cJ 3216 (L_0 4)), (h_0_row, eI cI 16 (I_0u7 9)), (h_0_best, eJ cJ 8 (L_0 5))]) hx hb hK hS 1 rfl rfl hi8 dX6_odds_202 (by rw [eI_0u7]; rfl) (fun H locs hS => ?_)
      refine lv_iinc (v := v8 + (nI 1)) (lv' := [(8, .int (v8 + (nI 1))), (0, .ref h_0), (6, .int v6), (7, .int v7)]) hx hb dX6_odds_203 hl (k := 3) rfl rfl (by decide) rfl (fun ls hl => ?_)
      refine lv_goto (tgt := 182) hx hb dX6_odds_206 (by decide) ?_
      exact hK182 I_0u7 L_0 v6 v7 (v8 + (nI 1)) _ _ _ hS (lv_sub hl [1, 2, 3, 0] rfl) hF
  have L182 : ∀  (n : Nat) (I_0 : Nat → Nat → Int32) (L_0 : Nat → Nat → Int64) (v6 : Int32) (v7 : Int32) (v8 : Int32) (H : Heap) (locs : List Loc) (ls : Array Slot), HS D A H0 [(h_0, oX6 h_0_of h_0_kept h_0_column h_0_size h_0_hidden h_0_cell h_0_home h_0_waste h_0_stock h_0_past h_0_start h_0_known h_0_sorted h_0_row h_0_best I_0), (h_0_of, eI cI 9 (I_0 1)), (h_0_kept, eI cI 9 (I_0 2)), (h_0_column, eJ cJ 5 (L_0 0)), (h_0_size, eI cI 5 (I_0 3)), (h_0_hidden, eI cI 5 (I_0 4)), (h_0_cell, eI cI 2 (I_0 5)), (h_0_home, eI cI 4 (I_0 6)), (h_0_waste, eI cI 8 (I_0 7)), (h_0_stock, eI cI 8 (I_0 8)), (h_0_past, eJ cJ 1616 (L_0 1)), (h_0_start, eJ cJ 8 (L_0 2)), (h_0_known, eJ cJ 3216 (L_0 3)), (h_0_sorted, eJ cJ 3216 (L_0 4)), (h_0_row, eI cI 16 (I_0 9)), (h_0_best, eJ cJ 8 (L_0 5))] H locs → lv_has ls 10 [(0, .ref h_0), (6, .int v6), (7, .int v7), (8, .int v8)] → F_X6_odds_L182   n I_0 L_0 v6 v7 v8 = some (rv, r_I_0, r_L_0) → W p l e ({ frames := 7, cells := 0, slots := 0, locals := 173 } : Room) s m args below meth c H locs 0 0 Q (F0 m 182 ls []) := by
    intro  n
    induction n with
    | zero => intro I_0 L_0 v6 v7 v8 H locs ls hS hl hF; exact nomatch (show (none : Option (Int32 × (Nat → Nat → Int32) × (Nat → Nat → Int64))) = some _ from hF)
    | succ n ih => intro I_0 L_0 v6 v7 v8 H locs ls hS hl hF; exact S182  _ ih I_0 L_0 v6 v7 v8 H locs ls hS hl hF
  have B170 : ∀ (K119 : (Nat → Nat → Int32) → (Nat → Nat → Int64) → Int32 → Int32 → Int32 → Int32 → Int32 → Int32 → Int32 → Option (Int32 × (Nat → Nat → Int32) × (Nat → Nat → Int64))) (_ : ∀ (I_0 : Nat → Nat → Int32) (L_0 : Nat → Nat → Int64) (v1 : Int32) (v2 : Int32) (v3 : Int32) (v4 : Int32) (v6 : Int32) (v7 : Int32) (v8 : Int32) (H : Heap) (locs : List Loc) (ls : Array Slot), HS D A H0 [(h_0, oX6 h_0_of h_0_kept h_0_column h_0_size h_0_hidden h_0_cell h_0_home h_0_waste h_0_stock h_0_past h_0_start h_0_known h_0_sorted h_0_row h_0_best I_0), (h_0_of, eI cI 9 (I_0 1)), (h_0_kept, eI cI 9 (I_0 2)), (h_0_column, eJ cJ 5 (L_0 0)), (h_0_size, eI cI 5 (I_0 3)), (h_0_hidden, eI cI 5 (I_0 4)), (h_0_cell, eI cI 2 (I_0 5)), (h_0_home, eI cI 4 (I_0 6)), (h_0_waste, eI cI 8 (I_0 7)), (h_0_stock, eI cI 8 (I_0 8)), (h_0_past, eJ cJ 1616 (L_0 1)), (h_0_start, eJ cJ 8 (L_0 2)), (h_0_known, eJ cJ 3216 (L_0 3)), (h_0_sorted, eJ cJ 3216 (L_0 4)), (h_0_row, eI cI 16 (I_0 9)), (h_0_best, eJ cJ 8 (L_0 5))] H locs → lv_has ls 10 [(0, .ref h_0), (1, .int v1), (2, .int v2), (3, .int v3), (4, .int v4), (6, .int v6), (7, .int v7), (8, .int v8)] → K119 I_0 L_0 v1 v2 v3 v4 v6 v7 v8 = some (rv, r_I_0, r_L_0) → W p l e ({ frames := 7, cells := 0, slots := 0, locals := 173 } : Room) s m args below meth c H locs 0 0 Q (F0 m 119 ls [])) (I_0 : Nat → Nat → Int32) (L_0 : Nat → Nat → Int64) (v1 : Int32) (v2 : Int32) (v3 : Int32) (v4 : Int32) (v6 : Int32) (v8 : Int32) (s0 : Int32) (s1 : Int32) (H : Heap) (locs : List Loc) (ls : Array Slot), HS D A H0 [(h_0, oX6 h_0_of h_0_kept h_0_column h_0_size h_0_hidden h_0_cell h_0_home h_0_waste h_0_stock h_0_past h_0_start h_0_known h_0_sorted h_0_row h_0_best I_0), (h_0_of, eI cI 9 (I_0 1)), (h_0_kept, eI cI 9 (I_0 2)), (h_0_column, eJ cJ 5 (L_0 0)), (h_0_size, eI cI 5 (I_0 3)), (h_0_hidden, eI cI 5 (I_0 4)), (h_0_cell, eI cI 2 (I_0 5)), (h_0_home, eI cI 4 (I_0 6)), (h_0_waste, eI cI 8 (I_0 7)), (h_0_stock, eI cI 8 (I_0 8)), (h_0_past, eJ cJ 1616 (L_0 1)), (h_0_start, eJ cJ 8 (L_0 2)), (h_0_known, eJ cJ 3216 (L_0 3)), (h_0_sorted, eJ cJ 3216 (L_0 4)), (h_0_row, eI cI 16 (I_0 9)), (h_0_best, eJ cJ 8 (L_0 5))] H locs → lv_has ls 10 [(0, .ref h_0), (1, .int v1), (2, .int v2), (3, .int v3), (4, .int v4), (6, .int v6), (8, .int v8)] → F_X6_odds_b170  K119 I_0 L_0 v1 v2 v3 v4 v6 v8 s0 s1 = some (rv, r_I_0, r_L_0) → W p l e ({ frames := 7, cells := 0, slots := 0, locals := 173 } : Room) s m args below meth c H locs 0 0 Q (F0 m 170 ls [.int s1, .int s0]) := by
    intro K119 hK119 I_0 L_0 v1 v2 v3 v4 v6 v8 s0 s1 H locs ls hS hl hF
    unfold F_X6_odds_b170 at hF
    refine lv_iadd hx hb dX6_odds_170 ?_
    refine lv_istore (lv' := [(7, .int (s0 + s1)), (0, .ref h_0), (1, .int v1), (2, .int v2), (3, .int v3), (4, .int v4), (6, .int v6), (8, .int v8)]) hx hb dX6_odds_171 hl (by decide) rfl (fun ls hl => ?_)
    refine lv_iinc (v := v8 + (nI 1)) (lv' := [(8, .int (v8 + (nI 1))), (7, .int (s0 + s1)), (0, .ref h_0), (1, .int v1), (2, .int v2), (3, .int v3), (4, .int v4), (6, .int v6)]) hx hb dX6_odds_173 hl (k := 7) rfl rfl (by decide) rfl (fun ls hl => ?_)
    refine lv_goto (tgt := 119) hx hb dX6_odds_176 (by decide) ?_
    exact hK119 I_0 L_0 v1 v2 v3 v4 v6 (s0 + s1) (v8 + (nI 1)) _ _ _ hS (lv_sub hl [2, 3, 4, 5, 6, 7, 1, 0] rfl) hF
  have B154 : ∀ (K119 : (Nat → Nat → Int32) → (Nat → Nat → Int64) → Int32 → Int32 → Int32 → Int32 → Int32 → Int32 → Int32 → Option (Int32 × (Nat → Nat → Int32) × (Nat → Nat → Int64))) (_ : ∀ (I_0 : Nat → Nat → Int32) (L_0 : Nat → Nat → Int64) (v1 : Int32) (v2 : Int32) (v3 : Int32) (v4 : Int32) (v6 : Int32) (v7 : Int32) (v8 : Int32) (H : Heap) (locs : List Loc) (ls : Array Slot), HS D A H0 [(h_0, oX6 h_0_of h_0_kept h_0_column h_0_size h_0_hidden h_0_cell h_0_home h_0_waste h_0_stock h_0_past h_0_start h_0_known h_0_sorted h_0_row h_0_best I_0), (h_0_of, eI cI 9 (I_0 1)), (h_0_kept, eI cI 9 (I_0 2)), (h_0_column, eJ cJ 5 (L_0 0)), (h_0_size, eI cI 5 (I_0 3)), (h_0_hidden, eI cI 5 (I_0 4)), (h_0_cell, eI cI 2 (I_0 5)), (h_0_home, eI cI 4 (I_0 6)), (h_0_waste, eI cI 8 (I_0 7)), (h_0_stock, eI cI 8 (I_0 8)), (h_0_past, eJ cJ 1616 (L_0 1)), (h_0_start, eJ cJ 8 (L_0 2)), (h_0_known, eJ cJ 3216 (L_0 3)), (h_0_sorted, eJ cJ 3216 (L_0 4)), (h_0_row, eI cI 16 (I_0 9)), (h_0_best, eJ cJ 8 (L_0 5))] H locs → lv_has ls 10 [(0, .ref h_0), (1, .int v1), (2, .int v2), (3, .int v3), (4, .int v4), (6, .int v6), (7, .int v7), (8, .int v8)] → K119 I_0 L_0 v1 v2 v3 v4 v6 v7 v8 = some (rv, r_I_0, r_L_0) → W p l e ({ frames := 7, cells := 0, slots := 0, locals := 173 } : Room) s m args below meth c H locs 0 0 Q (F0 m 119 ls [])) (I_0 : Nat → Nat → Int32) (L_0 : Nat → Nat → Int64) (v1 : Int32) (v2 : Int32) (v3 : Int32) (v4 : Int32) (v7 : Int32) (v8 : Int32) (v9 : Int32) (s0 : Int32) (s1 : Int32) (H : Heap) (locs : List Loc) (ls : Array Slot), HS D A H0 [(h_0, oX6 h_0_of h_0_kept h_0_column h_0_size h_0_hidden h_0_cell h_0_home h_0_waste h_0_stock h_0_past h_0_start h_0_known h_0_sorted h_0_row h_0_best I_0), (h_0_of, eI cI 9 (I_0 1)), (h_0_kept, eI cI 9 (I_0 2)), (h_0_column, eJ cJ 5 (L_0 0)), (h_0_size, eI cI 5 (I_0 3)), (h_0_hidden, eI cI 5 (I_0 4)), (h_0_cell, eI cI 2 (I_0 5)), (h_0_home, eI cI 4 (I_0 6)), (h_0_waste, eI cI 8 (I_0 7)), (h_0_stock, eI cI 8 (I_0 8)), (h_0_past, eJ cJ 1616 (L_0 1)), (h_0_start, eJ cJ 8 (L_0 2)), (h_0_known, eJ cJ 3216 (L_0 3)), (h_0_sorted, eJ cJ 3216 (L_0 4)), (h_0_row, eI cI 16 (I_0 9)), (h_0_best, eJ cJ 8 (L_0 5))] H locs → lv_has ls 10 [(0, .ref h_0), (1, .int v1), (2, .int v2), (3, .int v3), (4, .int v4), (7, .int v7), (8, .int v8), (9, .int v9)] → F_X6_odds_b154  K119 I_0 L_0 v1 v2 v3 v4 v7 v8 v9 s0 s1 = some (rv, r_I_0, r_L_0) → W p l e ({ frames := 7, cells := 0, slots := 0, locals := 173 } : Room) s m args below meth c H locs 0 0 Q (F0 m 154 ls [.int s1, .int s0]) := by
    intro K119 hK119 I_0 L_0 v1 v2 v3 v4 v7 v8 v9 s0 s1 H locs ls hS hl hF
    unfold F_X6_odds_b154 at hF
    refine lv_iadd hx hb dX6_odds_154 ?_
    refine lv_istore (lv' := [(6, .int (s0 + s1)), (0, .ref h_0), (1, .int v1), (2, .int v2), (3, .int v3), (4, .int v4), (7, .int v7), (8, .int v8), (9, .int v9)]) hx hb dX6_odds_155 hl (by decide) rfl (fun ls hl => ?_)
    refine lv_iload hx hb dX6_odds_157 (lv_at hl 6 rfl) ?_
    refine lv_iload hx hb dX6_odds_159 (lv_at hl 8 rfl) ?_
    refine lv_iconst (v := (-1)) hx hb dX6_odds_161 (by decide) ?_
    refine lv_icmp_ne (tgt := 169) hx hb dX6_odds_162 (by decide) (fun c_9 => ?_) (fun c_9 => ?_)
    · replace hF := ifn hF c_9
      refine lv_iconst (v := (nI 0)) hx hb dX6_odds_169 (by decide) ?_
      exact B170 K119 hK119 I_0 L_0 v1 v2 v3 v4 (s0 + s1) v8 v7 (nI 0) _ _ _ hS (lv_sub hl [1, 2, 3, 4, 5, 0, 7] rfl) hF
    · replace hF := ifp hF c_9
      refine lv_iconst (v := (nI 1)) hx hb dX6_odds_165 (by decide) ?_
      refine lv_goto (tgt := 170) hx hb dX6_odds_166 (by decide) ?_
      exact B170 K119 hK119 I_0 L_0 v1 v2 v3 v4 (s0 + s1) v8 v7 (nI 1) _ _ _ hS (lv_sub hl [1, 2, 3, 4, 5, 0, 7] rfl) hF
  have S119 : ∀ (K119 : (Nat → Nat → Int32) → (Nat → Nat → Int64) → Int32 → Int32 → Int32 → Int32 → Int32 → Int32 → Int32 → Option (Int32 × (Nat → Nat → Int32) × (Nat → Nat → Int64))) (_ : ∀ (I_0 : Nat → Nat → Int32) (L_0 : Nat → Nat → Int64) (v1 : Int32) (v2 : Int32) (v3 : Int32) (v4 : Int32) (v6 : Int32) (v7 : Int32) (v8 : Int32) (H : Heap) (locs : List Loc) (ls : Array Slot), HS D A H0 [(h_0, oX6 h_0_of h_0_kept h_0_column h_0_size h_0_hidden h_0_cell h_0_home h_0_waste h_0_stock h_0_past h_0_start h_0_known h_0_sorted h_0_row h_0_best I_0), (h_0_of, eI cI 9 (I_0 1)), (h_0_kept, eI cI 9 (I_0 2)), (h_0_column, eJ cJ 5 (L_0 0)), (h_0_size, eI cI 5 (I_0 3)), (h_0_hidden, eI cI 5 (I_0 4)), (h_0_cell, eI cI 2 (I_0 5)), (h_0_home, eI cI 4 (I_0 6)), (h_0_waste, eI cI 8 (I_0 7)), (h_0_stock, eI cI 8 (I_0 8)), (h_0_past, eJ cJ 1616 (L_0 1)), (h_0_start, eJ cJ 8 (L_0 2)), (h_0_known, eJ cJ 3216 (L_0 3)), (h_0_sorted, eJ cJ 3216 (L_0 4)), (h_0_row, eI cI 16 (I_0 9)), (h_0_best, eJ cJ 8 (L_0 5))] H locs → lv_has ls 10 [(0, .ref h_0), (1, .int v1), (2, .int v2), (3, .int v3), (4, .int v4), (6, .int v6), (7, .int v7), (8, .int v8)] → K119 I_0 L_0 v1 v2 v3 v4 v6 v7 v8 = some (rv, r_I_0, r_L_0) → W p l e ({ frames := 7, cells := 0, slots := 0, locals := 173 } : Room) s m args below meth c H locs 0 0 Q (F0 m 119 ls [])) (I_0 : Nat → Nat → Int32) (L_0 : Nat → Nat → Int64) (v1 : Int32) (v2 : Int32) (v3 : Int32) (v4 : Int32) (v6 : Int32) (v7 : Int32) (v8 : Int32) (H : Heap) (locs : List Loc) (ls : Array Slot), HS D A H0 [(h_0, oX6 h_0_of h_0_kept h_0_column h_0_size h_0_hidden h_0_cell h_0_home h_0_waste h_0_stock h_0_past h_0_start h_0_known h_0_sorted h_0_row h_0_best I_0), (h_0_of, eI cI 9 (I_0 1)), (h_0_kept, eI cI 9 (I_0 2)), (h_0_column, eJ cJ 5 (L_0 0)), (h_0_size, eI cI 5 (I_0 3)), (h_0_hidden, eI cI 5 (I_0 4)), (h_0_cell, eI cI 2 (I_0 5)), (h_0_home, eI cI 4 (I_0 6)), (h_0_waste, eI cI 8 (I_0 7)), (h_0_stock, eI cI 8 (I_0 8)), (h_0_past, eJ cJ 1616 (L_0 1)), (h_0_start, eJ cJ 8 (L_0 2)), (h_0_known, eJ cJ 3216 (L_0 3)), (h_0_sorted, eJ cJ 3216 (L_0 4)), (h_0_row, eI cI 16 (I_0 9)), (h_0_best, eJ cJ 8 (L_0 5))] H locs → lv_has ls 10 [(0, .ref h_0), (1, .int v1), (2, .int v2), (3, .int v3), (4, .int v4), (6, .int v6), (7, .int v7), (8, .int v8)] → F_X6_odds_s119  K119 I_0 L_0 v1 v2 v3 v4 v6 v7 v8 = some (rv, r_I_0, r_L_0) → W p l e ({ frames := 7, cells := 0, slots := 0, locals := 173 } : Room) s m args below meth c H locs 0 0 Q (F0 m 119 ls []) := by
    intro K119 hK119 I_0 L_0 v1 v2 v3 v4 v6 v7 v8 H locs ls hS hl hF
    unfold F_X6_odds_s119 at hF
    refine lv_iload hx hb dX6_odds_119 (lv_at hl 7 rfl) ?_
    refine lv_iload_n hx hb dX6_odds_121 rfl (lv_at hl 3 rfl) ?_
    refine lv_icmp_ge (tgt := 179) hx hb dX6_odds_122 (by decide) (fun c_10 => ?_) (fun c_10 => ?_)
    · replace hF := ifp hF c_10
      refine lv_iconst (v := (nI 0)) hx hb dX6_odds_179 (by decide) ?_
      refine lv_istore (lv' := [(8, .int (nI 0)), (0, .ref h_0), (1, .int v1), (2, .int v2), (3, .int v3), (4, .int v4), (6, .int v6), (7, .int v7)]) hx hb dX6_odds_180 hl (by decide) rfl (fun ls hl => ?_)
      exact L182 FU I_0 L_0 v6 v7 (nI 0) _ _ _ hS (lv_sub hl [1, 6, 7, 0] rfl) hF
    · replace hF := ifn hF c_10
      refine lv_aload_n hx hb dX6_odds_125 rfl (lv_at hl 0 rfl) ?_
      refine lv_iload_n hx hb dX6_odds_126 rfl (lv_at hl 1 rfl) ?_
      refine lv_iload_n hx hb dX6_odds_127 rfl (lv_at hl 2 rfl) ?_
      refine lv_iload hx hb dX6_odds_128 (lv_at hl 7 rfl) ?_
      refine lv_iadd hx hb dX6_odds_130 ?_
      replace hF := cal2_e hF
      obtain ⟨I_0u11, L_0u12, hc13, hF⟩ := hF
      refine kV_v (As := [.int v1, .int (v2 + v8)]) (rest := []) (wr := []) (w2 := [(h_0, oX6 h_0_of h_0_kept h_0_column h_0_size h_0_hidden h_0_cell h_0_home h_0_waste h_0_stock h_0_past h_0_start h_0_known h_0_sorted h_0_row h_0_best I_0u11), (h_0_of, eI cI 9 (I_0u11 1)), (h_0_kept, eI cI 9 (I_0u11 2)), (h_0_column, eJ cJ 5 (L_0u12 0)), (h_0_size, eI cI 5 (I_0u11 3)), (h_0_hidden, eI cI 5 (I_0u11 4)), (h_0_cell, eI cI 2 (I_0u11 5)), (h_0_home, eI cI 4 (I_0u11 6)), (h_0_waste, eI cI 8 (I_0u11 7)), (h_0_stock, eI cI 8 (I_0u11 8)), (h_0_past, eJ cJ 1616 (L_0u12 1)), (h_0_start, eJ cJ 8 (L_0u12 2)), (h_0_known, eJ cJ 3216 (L_0u12 3)), (h_0_sorted, eJ cJ 3216 (L_0u12 4)), (h_0_row, eI cI 16 (I_0u11 9)), (h_0_best, eJ cJ 8 (L_0u12 5))]) hCF hK (c_X6_lay l D cI cJ h_0 h_0_of h_0_kept h_0_column h_0_size h_0_hidden h_0_cell h_0_home h_0_waste h_0_stock h_0_past h_0_start h_0_known h_0_sorted h_0_row h_0_best I_0 L_0 v1 (v2 + v8) I_0u11 L_0u12 hc13) (cwV 2 hts (TBL_V mw_184 mw_185 mw_186 mw_5 mw_187) rfl rfl rfl pmX6_lay ⟨Nat.le_of_ble_eq_true rfl, Nat.le_of_ble_eq_true rfl⟩) hS hA [0, 1, 2, 3, 4, 5, 6, 7, 8, 9, 10, 11, 12, 13, 14, 15] [] rfl rfl rfl rfl (by decide) rfl rfl rfl hl.1 rfl (Nat.le_of_ble_eq_true rfl) ⟨Nat.zero_le _, Nat.zero_le _⟩ dX6_odds_131 rfl (fun H locs hS => ?_)
      refine lv_aload_n hx hb dX6_odds_134 rfl (lv_at hl 0 rfl) ?_
      refine lv_iload hx hb dX6_odds_135 (lv_at hl 4 rfl) ?_
      replace hF := cal3_e hF
      obtain ⟨x14, I_0u15, L_0u16, hc17, hF⟩ := hF
      refine kV_i (As := [.int v4]) (rest := []) (wr := []) (w2 := [(h_0, oX6 h_0_of h_0_kept h_0_column h_0_size h_0_hidden h_0_cell h_0_home h_0_waste h_0_stock h_0_past h_0_start h_0_known h_0_sorted h_0_row h_0_best I_0u15), (h_0_of, eI cI 9 (I_0u15 1)), (h_0_kept, eI cI 9 (I_0u15 2)), (h_0_column, eJ cJ 5 (L_0u16 0)), (h_0_size, eI cI 5 (I_0u15 3)), (h_0_hidden, eI cI 5 (I_0u15 4)), (h_0_cell, eI cI 2 (I_0u15 5)), (h_0_home, eI cI 4 (I_0u15 6)), (h_0_waste, eI cI 8 (I_0u15 7)), (h_0_stock, eI cI 8 (I_0u15 8)), (h_0_past, eJ cJ 1616 (L_0u16 1)), (h_0_start, eJ cJ 8 (L_0u16 2)), (h_0_known, eJ cJ 3216 (L_0u16 3)), (h_0_sorted, eJ cJ 3216 (L_0u16 4)), (h_0_row, eI cI 16 (I_0u15 9)), (h_0_best, eJ cJ 8 (L_0u16 5))]) hCF hK (c_X6_look l D cI cJ h_0 h_0_of h_0_kept h_0_column h_0_size h_0_hidden h_0_cell h_0_home h_0_waste h_0_stock h_0_past h_0_start h_0_known h_0_sorted h_0_row h_0_best I_0u11 L_0u12 v4 x14 I_0u15 L_0u16 hc17) (cwV 1 hts (TBL_V mw_693 mw_694 mw_695 mw_5 mw_696) rfl rfl rfl pmX6_look ⟨Nat.le_of_ble_eq_true rfl, Nat.le_of_ble_eq_true rfl⟩) hS hA [0, 1, 2, 3, 4, 5, 6, 7, 8, 9, 10, 11, 12, 13, 14, 15] [] rfl rfl rfl rfl (by decide) rfl rfl rfl hl.1 rfl (Nat.le_of_ble_eq_true rfl) ⟨Nat.zero_le _, Nat.zero_le _⟩ dX6_odds_137 rfl (fun H locs hS => ?_)
      refine lv_istore (lv' := [(9, .int x14), (0, .ref h_0), (1, .int v1), (2, .int v2), (3, .int v3), (4, .int v4), (6, .int v6), (7, .int v7), (8, .int v8)]) hx hb dX6_odds_140 hl (by decide) rfl (fun ls hl => ?_)
      refine lv_iload hx hb dX6_odds_142 (lv_at hl 6 rfl) ?_
      refine lv_iload hx hb dX6_odds_144 (lv_at hl 0 rfl) ?_
      refine lv_if_lt (tgt := 153) hx hb dX6_odds_146 (by decide) (fun c_18 => ?_) (fun c_18 => ?_)
      · replace hF := ifp hF c_18
        refine lv_iconst (v := (nI 0)) hx hb dX6_odds_153 (by decide) ?_
        exact B154 K119 hK119 I_0u15 L_0u16 v1 v2 v3 v4 v7 v8 x14 v6 (nI 0) _ _ _ hS (lv_sub hl [1, 2, 3, 4, 5, 7, 8, 0] rfl) hF
      · replace hF := ifn hF c_18
        refine lv_iconst (v := (nI 1)) hx hb dX6_odds_149 (by decide) ?_
        refine lv_goto (tgt := 154) hx hb dX6_odds_150 (by decide) ?_
        exact B154 K119 hK119 I_0u15 L_0u16 v1 v2 v3 v4 v7 v8 x14 v6 (nI 1) _ _ _ hS (lv_sub hl [1, 2, 3, 4, 5, 7, 8, 0] rfl) hF
  have L119 : ∀  (n : Nat) (I_0 : Nat → Nat → Int32) (L_0 : Nat → Nat → Int64) (v1 : Int32) (v2 : Int32) (v3 : Int32) (v4 : Int32) (v6 : Int32) (v7 : Int32) (v8 : Int32) (H : Heap) (locs : List Loc) (ls : Array Slot), HS D A H0 [(h_0, oX6 h_0_of h_0_kept h_0_column h_0_size h_0_hidden h_0_cell h_0_home h_0_waste h_0_stock h_0_past h_0_start h_0_known h_0_sorted h_0_row h_0_best I_0), (h_0_of, eI cI 9 (I_0 1)), (h_0_kept, eI cI 9 (I_0 2)), (h_0_column, eJ cJ 5 (L_0 0)), (h_0_size, eI cI 5 (I_0 3)), (h_0_hidden, eI cI 5 (I_0 4)), (h_0_cell, eI cI 2 (I_0 5)), (h_0_home, eI cI 4 (I_0 6)), (h_0_waste, eI cI 8 (I_0 7)), (h_0_stock, eI cI 8 (I_0 8)), (h_0_past, eJ cJ 1616 (L_0 1)), (h_0_start, eJ cJ 8 (L_0 2)), (h_0_known, eJ cJ 3216 (L_0 3)), (h_0_sorted, eJ cJ 3216 (L_0 4)), (h_0_row, eI cI 16 (I_0 9)), (h_0_best, eJ cJ 8 (L_0 5))] H locs → lv_has ls 10 [(0, .ref h_0), (1, .int v1), (2, .int v2), (3, .int v3), (4, .int v4), (6, .int v6), (7, .int v7), (8, .int v8)] → F_X6_odds_L119   n I_0 L_0 v1 v2 v3 v4 v6 v7 v8 = some (rv, r_I_0, r_L_0) → W p l e ({ frames := 7, cells := 0, slots := 0, locals := 173 } : Room) s m args below meth c H locs 0 0 Q (F0 m 119 ls []) := by
    intro  n
    induction n with
    | zero => intro I_0 L_0 v1 v2 v3 v4 v6 v7 v8 H locs ls hS hl hF; exact nomatch (show (none : Option (Int32 × (Nat → Nat → Int32) × (Nat → Nat → Int64))) = some _ from hF)
    | succ n ih => intro I_0 L_0 v1 v2 v3 v4 v6 v7 v8 H locs ls hS hl hF; exact S119  _ ih I_0 L_0 v1 v2 v3 v4 v6 v7 v8 H locs ls hS hl hF
  have B106 : ∀ (I_0 : Nat → Nat → Int32) (L_0 : Nat → Nat → Int64) (v1 : Int32) (v2 : Int32) (v3 : Int32) (v4 : Int32) (H : Heap) (locs : List Loc) (ls : Array Slot), HS D A H0 [(h_0, oX6 h_0_of h_0_kept h_0_column h_0_size h_0_hidden h_0_cell h_0_home h_0_waste h_0_stock h_0_past h_0_start h_0_known h_0_sorted h_0_row h_0_best I_0), (h_0_of, eI cI 9 (I_0 1)), (h_0_kept, eI cI 9 (I_0 2)), (h_0_column, eJ cJ 5 (L_0 0)), (h_0_size, eI cI 5 (I_0 3)), (h_0_hidden, eI cI 5 (I_0 4)), (h_0_cell, eI cI 2 (I_0 5)), (h_0_home, eI cI 4 (I_0 6)), (h_0_waste, eI cI 8 (I_0 7)), (h_0_stock, eI cI 8 (I_0 8)), (h_0_past, eJ cJ 1616 (L_0 1)), (h_0_start, eJ cJ 8 (L_0 2)), (h_0_known, eJ cJ 3216 (L_0 3)), (h_0_sorted, eJ cJ 3216 (L_0 4)), (h_0_row, eI cI 16 (I_0 9)), (h_0_best, eJ cJ 8 (L_0 5))] H locs → lv_has ls 10 [(0, .ref h_0), (1, .int v1), (2, .int v2), (3, .int v3), (4, .int v4)] → F_X6_odds_b106   I_0 L_0 v1 v2 v3 v4 = some (rv, r_I_0, r_L_0) → W p l e ({ frames := 7, cells := 0, slots := 0, locals := 173 } : Room) s m args below meth c H locs 0 0 Q (F0 m 106 ls []) := by
    intro I_0 L_0 v1 v2 v3 v4 H locs ls hS hl hF
    unfold F_X6_odds_b106 at hF
    refine lv_aload_n hx hb dX6_odds_106 rfl (lv_at hl 0 rfl) ?_
    replace hF := cal1_e hF
    obtain ⟨I_0u19, hc20, hF⟩ := hF
    refine kV_v (As := []) (rest := []) (wr := []) (w2 := [(h_0, oX6 h_0_of h_0_kept h_0_column h_0_size h_0_hidden h_0_cell h_0_home h_0_waste h_0_stock h_0_past h_0_start h_0_known h_0_sorted h_0_row h_0_best I_0u19), (h_0_of, eI cI 9 (I_0u19 1)), (h_0_kept, eI cI 9 (I_0u19 2)), (h_0_column, eJ cJ 5 (L_0 0)), (h_0_size, eI cI 5 (I_0u19 3)), (h_0_hidden, eI cI 5 (I_0u19 4)), (h_0_cell, eI cI 2 (I_0u19 5)), (h_0_home, eI cI 4 (I_0u19 6)), (h_0_waste, eI cI 8 (I_0u19 7)), (h_0_stock, eI cI 8 (I_0u19 8)), (h_0_past, eJ cJ 1616 (L_0 1)), (h_0_start, eJ cJ 8 (L_0 2)), (h_0_known, eJ cJ 3216 (L_0 3)), (h_0_sorted, eJ cJ 3216 (L_0 4)), (h_0_row, eI cI 16 (I_0u19 9)), (h_0_best, eJ cJ 8 (L_0 5))]) hCF hK (c_X6_takeRules l D cI cJ h_0 h_0_of h_0_kept h_0_column h_0_size h_0_hidden h_0_cell h_0_home h_0_waste h_0_stock h_0_past h_0_start h_0_known h_0_sorted h_0_row h_0_best L_0 I_0 I_0u19 hc20) (cwV 0 hts (TBL_V mw_176 mw_177 mw_178 mw_5 mw_179) rfl rfl rfl pmX6_takeRules ⟨Nat.le_of_ble_eq_true rfl, Nat.le_of_ble_eq_true rfl⟩) hS hA [0, 1, 2, 3, 4, 5, 6, 7, 8, 9, 10, 11, 12, 13, 14, 15] [] rfl rfl rfl rfl (by decide) rfl rfl rfl hl.1 rfl (Nat.le_of_ble_eq_true rfl) ⟨Nat.zero_le _, Nat.zero_le _⟩ dX6_odds_107 rfl (fun H locs hS => ?_)
    refine lv_iconst (v := (nI 0)) hx hb dX6_odds_110 (by decide) ?_
    refine lv_istore (lv' := [(6, .int (nI 0)), (0, .ref h_0), (1, .int v1), (2, .int v2), (3, .int v3), (4, .int v4)]) hx hb dX6_odds_111 hl (by decide) rfl (fun ls hl => ?_)
    refine lv_iconst (v := (nI 0)) hx hb dX6_odds_113 (by decide) ?_
    refine lv_istore (lv' := [(7, .int (nI 0)), (6, .int (nI 0)), (0, .ref h_0), (1, .int v1), (2, .int v2), (3, .int v3), (4, .int v4)]) hx hb dX6_odds_114 hl (by decide) rfl (fun ls hl => ?_)
    refine lv_iconst (v := (nI 0)) hx hb dX6_odds_116 (by decide) ?_
    refine lv_istore (lv' := [(8, .int (nI 0)), (7, .int (nI 0)), (6, .int (nI 0)), (0, .ref h_0), (1, .int v1), (2, .int v2), (3, .int v3), (4, .int v4)]) hx hb dX6_odds_117 hl (by decide) rfl (fun ls hl => ?_)
    exact L119 FU I_0u19 L_0 v1 v2 v3 v4 (nI 0) (nI 0) (nI 0) _ _ _ hS (lv_sub hl [3, 4, 5, 6, 7, 2, 1, 0] rfl) hF
  have S79 : ∀ (K79 : (Nat → Nat → Int32) → (Nat → Nat → Int64) → Int32 → Int32 → Int32 → Int32 → Int32 → Option (Int32 × (Nat → Nat → Int32) × (Nat → Nat → Int64))) (_ : ∀ (I_0 : Nat → Nat → Int32) (L_0 : Nat → Nat → Int64) (v1 : Int32) (v2 : Int32) (v3 : Int32) (v4 : Int32) (v6 : Int32) (H : Heap) (locs : List Loc) (ls : Array Slot), HS D A H0 [(h_0, oX6 h_0_of h_0_kept h_0_column h_0_size h_0_hidden h_0_cell h_0_home h_0_waste h_0_stock h_0_past h_0_start h_0_known h_0_sorted h_0_row h_0_best I_0), (h_0_of, eI cI 9 (I_0 1)), (h_0_kept, eI cI 9 (I_0 2)), (h_0_column, eJ cJ 5 (L_0 0)), (h_0_size, eI cI 5 (I_0 3)), (h_0_hidden, eI cI 5 (I_0 4)), (h_0_cell, eI cI 2 (I_0 5)), (h_0_home, eI cI 4 (I_0 6)), (h_0_waste, eI cI 8 (I_0 7)), (h_0_stock, eI cI 8 (I_0 8)), (h_0_past, eJ cJ 1616 (L_0 1)), (h_0_start, eJ cJ 8 (L_0 2)), (h_0_known, eJ cJ 3216 (L_0 3)), (h_0_sorted, eJ cJ 3216 (L_0 4)), (h_0_row, eI cI 16 (I_0 9)), (h_0_best, eJ cJ 8 (L_0 5))] H locs → lv_has ls 10 [(0, .ref h_0), (1, .int v1), (2, .int v2), (3, .int v3), (4, .int v4), (6, .int v6)] → K79 I_0 L_0 v1 v2 v3 v4 v6 = some (rv, r_I_0, r_L_0) → W p l e ({ frames := 7, cells := 0, slots := 0, locals := 173 } : Room) s m args below meth c H locs 0 0 Q (F0 m 79 ls [])) (I_0 : Nat → Nat → Int32) (L_0 : Nat → Nat → Int64) (v1 : Int32) (v2 : Int32) (v3 : Int32) (v4 : Int32) (v6 : Int32) (H : Heap) (locs : List Loc) (ls : Array Slot), HS D A H0 [(h_0, oX6 h_0_of h_0_kept h_0_column h_0_size h_0_hidden h_0_cell h_0_home h_0_waste h_0_stock h_0_past h_0_start h_0_known h_0_sorted h_0_row h_0_best I_0), (h_0_of, eI cI 9 (I_0 1)), (h_0_kept, eI cI 9 (I_0 2)), (h_0_column, eJ cJ 5 (L_0 0)), (h_0_size, eI cI 5 (I_0 3)), (h_0_hidden, eI cI 5 (I_0 4)), (h_0_cell, eI cI 2 (I_0 5)), (h_0_home, eI cI 4 (I_0 6)), (h_0_waste, eI cI 8 (I_0 7)), (h_0_stock, eI cI 8 (I_0 8)), (h_0_past, eJ cJ 1616 (L_0 1)), (h_0_start, eJ cJ 8 (L_0 2)), (h_0_known, eJ cJ 3216 (L_0 3)), (h_0_sorted, eJ cJ 3216 (L_0 4)), (h_0_row, eI cI 16 (I_0 9)), (h_0_best, eJ cJ 8 (L_0 5))] H locs → lv_has ls 10 [(0, .ref h_0), (1, .int v1), (2, .int v2), (3, .int v3), (4, .int v4), (6, .int v6)] → F_X6_odds_s79  K79 I_0 L_0 v1 v2 v3 v4 v6 = some (rv, r_I_0, r_L_0) → W p l e ({ frames := 7, cells := 0, slots := 0, locals := 173 } : Room) s m args below meth c H locs 0 0 Q (F0 m 79 ls []) := by
    intro K79 hK79 I_0 L_0 v1 v2 v3 v4 v6 H locs ls hS hl hF
    unfold F_X6_odds_s79 at hF
    refine lv_iload hx hb dX6_odds_79 (lv_at hl 5 rfl) ?_
    refine lv_bipush (v := (nI 9)) hx hb dX6_odds_81 (by decide) ?_
    refine lv_icmp_ge (tgt := 106) hx hb dX6_odds_83 (by decide) (fun c_21 => ?_) (fun c_21 => ?_)
    · replace hF := ifp hF c_21
      exact B106 I_0 L_0 v1 v2 v3 v4 _ _ _ hS (lv_sub hl [0, 1, 2, 3, 4] rfl) hF
    · replace hF := ifn hF c_21
      refine lv_aload_n hx hb dX6_odds_86 rfl (lv_at hl 0 rfl) ?_
      refine r_get hx hb hts inX6 hown hK hS 0 11 rfl rfl (by decide) q3 rfl dX6_odds_87 ?_
      refine lv_iload hx hb dX6_odds_90 (lv_at hl 5 rfl) ?_
      refine lv_aload_n hx hb dX6_odds_92 rfl (lv_at hl 0 rfl) ?_
      refine r_get hx hb hts inX6 hown hK hS 0 10 rfl rfl (by decide) q2 rfl dX6_odds_93 ?_
      refine lv_iload hx hb dX6_odds_96 (lv_at hl 5 rfl) ?_
      replace hF := rdA_e hF
      obtain ⟨hi23, x22, ex22, hF⟩ := hF
      refine r_iald hx hb hK hS 1 rfl rfl hi23 dX6_odds_98 ex22 ?_
      replace hF := wrA_e hF
      obtain ⟨hi25, I_0u24, eI_0u24, hF⟩ := hF
      refine r_iast (w2 := [(h_0, oX6 h_0_of h_0_kept h_0_column h_0_size h_0_hidden h_0_cell h_0_home h_0_waste h_0_stock h_0_past h_0_start h_0_known h_0_sorted h_0_row h_0_best I_0u24), (h_0_of, eI cI 9 (I_0u24 1)), (h_0_kept, eI cI 9 (I_0u24 2)), (h_0_column, eJ cJ 5 (L_0 0)), (h_0_size, eI cI 5 (I_0u24 3)), (h_0_hidden, eI cI 5 (I_0u24 4)), (h_0_cell, eI cI 2 (I_0u24 5)), (h_0_home, eI cI 4 (I_0u24 6)), (h_0_waste, eI cI 8 (I_0u24 7)), (h_0_stock, eI cI 8 (I_0u24 8)), (h_0_past, eJ cJ 1616 (L_0 1)), (h_0_start, eJ cJ 8 (L_0 2)), (h_0_known, eJ cJ 3216 (L_0 3)), (h_0_sorted, eJ cJ 3216 (L_0 4)), (h_0_row, eI cI 16 (I_0u24 9)), (h_0_best, eJ cJ 8 (L_0 5))]) hx hb hK hS 2 rfl rfl hi25 dX6_odds_99 (by rw [eI_0u24]; rfl) (fun H locs hS => ?_)
      refine lv_iinc (v := v6 + (nI 1)) (lv' := [(6, .int (v6 + (nI 1))), (0, .ref h_0), (1, .int v1), (2, .int v2), (3, .int v3), (4, .int v4)]) hx hb dX6_odds_100 hl (k := 5) rfl rfl (by decide) rfl (fun ls hl => ?_)
      refine lv_goto (tgt := 79) hx hb dX6_odds_103 (by decide) ?_
      exact hK79 I_0u24 L_0 v1 v2 v3 v4 (v6 + (nI 1)) _ _ _ hS (lv_sub hl [1, 2, 3, 4, 5, 0] rfl) hF
  have L79 : ∀  (n : Nat) (I_0 : Nat → Nat → Int32) (L_0 : Nat → Nat → Int64) (v1 : Int32) (v2 : Int32) (v3 : Int32) (v4 : Int32) (v6 : Int32) (H : Heap) (locs : List Loc) (ls : Array Slot), HS D A H0 [(h_0, oX6 h_0_of h_0_kept h_0_column h_0_size h_0_hidden h_0_cell h_0_home h_0_waste h_0_stock h_0_past h_0_start h_0_known h_0_sorted h_0_row h_0_best I_0), (h_0_of, eI cI 9 (I_0 1)), (h_0_kept, eI cI 9 (I_0 2)), (h_0_column, eJ cJ 5 (L_0 0)), (h_0_size, eI cI 5 (I_0 3)), (h_0_hidden, eI cI 5 (I_0 4)), (h_0_cell, eI cI 2 (I_0 5)), (h_0_home, eI cI 4 (I_0 6)), (h_0_waste, eI cI 8 (I_0 7)), (h_0_stock, eI cI 8 (I_0 8)), (h_0_past, eJ cJ 1616 (L_0 1)), (h_0_start, eJ cJ 8 (L_0 2)), (h_0_known, eJ cJ 3216 (L_0 3)), (h_0_sorted, eJ cJ 3216 (L_0 4)), (h_0_row, eI cI 16 (I_0 9)), (h_0_best, eJ cJ 8 (L_0 5))] H locs → lv_has ls 10 [(0, .ref h_0), (1, .int v1), (2, .int v2), (3, .int v3), (4, .int v4), (6, .int v6)] → F_X6_odds_L79   n I_0 L_0 v1 v2 v3 v4 v6 = some (rv, r_I_0, r_L_0) → W p l e ({ frames := 7, cells := 0, slots := 0, locals := 173 } : Room) s m args below meth c H locs 0 0 Q (F0 m 79 ls []) := by
    intro  n
    induction n with
    | zero => intro I_0 L_0 v1 v2 v3 v4 v6 H locs ls hS hl hF; exact nomatch (show (none : Option (Int32 × (Nat → Nat → Int32) × (Nat → Nat → Int64))) = some _ from hF)
    | succ n ih => intro I_0 L_0 v1 v2 v3 v4 v6 H locs ls hS hl hF; exact S79  _ ih I_0 L_0 v1 v2 v3 v4 v6 H locs ls hS hl hF
  have B59 : ∀ (I_0 : Nat → Nat → Int32) (L_0 : Nat → Nat → Int64) (v1 : Int32) (v2 : Int32) (v3 : Int32) (v4 : Int32) (s1 : Int32) (H : Heap) (locs : List Loc) (ls : Array Slot), HS D A H0 [(h_0, oX6 h_0_of h_0_kept h_0_column h_0_size h_0_hidden h_0_cell h_0_home h_0_waste h_0_stock h_0_past h_0_start h_0_known h_0_sorted h_0_row h_0_best I_0), (h_0_of, eI cI 9 (I_0 1)), (h_0_kept, eI cI 9 (I_0 2)), (h_0_column, eJ cJ 5 (L_0 0)), (h_0_size, eI cI 5 (I_0 3)), (h_0_hidden, eI cI 5 (I_0 4)), (h_0_cell, eI cI 2 (I_0 5)), (h_0_home, eI cI 4 (I_0 6)), (h_0_waste, eI cI 8 (I_0 7)), (h_0_stock, eI cI 8 (I_0 8)), (h_0_past, eJ cJ 1616 (L_0 1)), (h_0_start, eJ cJ 8 (L_0 2)), (h_0_known, eJ cJ 3216 (L_0 3)), (h_0_sorted, eJ cJ 3216 (L_0 4)), (h_0_row, eI cI 16 (I_0 9)), (h_0_best, eJ cJ 8 (L_0 5))] H locs → lv_has ls 10 [(0, .ref h_0), (1, .int v1), (2, .int v2), (3, .int v3), (4, .int v4)] → F_X6_odds_b59   I_0 L_0 v1 v2 v3 v4 s1 = some (rv, r_I_0, r_L_0) → W p l e ({ frames := 7, cells := 0, slots := 0, locals := 173 } : Room) s m args below meth c H locs 0 0 Q (F0 m 59 ls [.int s1, .ref h_0]) := by
    intro I_0 L_0 v1 v2 v3 v4 s1 H locs ls hS hl hF
    unfold F_X6_odds_b59 at hF
    replace hF := cal2_e hF
    obtain ⟨x26, I_0u27, hc28, hF⟩ := hF
    refine kV_i (As := [.int s1]) (rest := []) (wr := []) (w2 := [(h_0, oX6 h_0_of h_0_kept h_0_column h_0_size h_0_hidden h_0_cell h_0_home h_0_waste h_0_stock h_0_past h_0_start h_0_known h_0_sorted h_0_row h_0_best I_0u27), (h_0_of, eI cI 9 (I_0u27 1)), (h_0_kept, eI cI 9 (I_0u27 2)), (h_0_column, eJ cJ 5 (L_0 0)), (h_0_size, eI cI 5 (I_0u27 3)), (h_0_hidden, eI cI 5 (I_0u27 4)), (h_0_cell, eI cI 2 (I_0u27 5)), (h_0_home, eI cI 4 (I_0u27 6)), (h_0_waste, eI cI 8 (I_0u27 7)), (h_0_stock, eI cI 8 (I_0u27 8)), (h_0_past, eJ cJ 1616 (L_0 1)), (h_0_start, eJ cJ 8 (L_0 2)), (h_0_known, eJ cJ 3216 (L_0 3)), (h_0_sorted, eJ cJ 3216 (L_0 4)), (h_0_row, eI cI 16 (I_0u27 9)), (h_0_best, eJ cJ 8 (L_0 5))]) hCF hK (c_X6_goesWell l D cI cJ h_0 h_0_of h_0_kept h_0_column h_0_size h_0_hidden h_0_cell h_0_home h_0_waste h_0_stock h_0_past h_0_start h_0_known h_0_sorted h_0_row h_0_best L_0 I_0 s1 x26 I_0u27 hc28) (cwV 1 hts (TBL_V mw_237 mw_238 mw_239 mw_5 mw_240) rfl rfl rfl pmX6_goesWell ⟨Nat.le_of_ble_eq_true rfl, Nat.le_of_ble_eq_true rfl⟩) hS hA [0, 1, 2, 3, 4, 5, 6, 7, 8, 9, 10, 11, 12, 13, 14, 15] [] rfl rfl rfl rfl (by decide) rfl rfl rfl hl.1 rfl (Nat.le_of_ble_eq_true rfl) ⟨Nat.zero_le _, Nat.zero_le _⟩ dX6_odds_59 rfl (fun H locs hS => ?_)
    refine lv_if_ne (tgt := 67) hx hb dX6_odds_62 (by decide) (fun c_29 => ?_) (fun c_29 => ?_)
    · replace hF := ifn hF c_29
      refine lv_aload_n hx hb dX6_odds_67 rfl (lv_at hl 0 rfl) ?_
      refine lv_aload_n hx hb dX6_odds_68 rfl (lv_at hl 0 rfl) ?_
      refine r_get hx hb hts inX6 hown hK hS 0 26 rfl rfl (by decide) q0 rfl dX6_odds_69 ?_
      refine lv_iconst (v := (nI 0)) hx hb dX6_odds_72 (by decide) ?_
      replace hF := cal1_e hF
      obtain ⟨L_0u30, hc31, hF⟩ := hF
      refine kV_v (As := [.ref h_0_start, .int (nI 0)]) (rest := []) (wr := []) (w2 := [(h_0, oX6 h_0_of h_0_kept h_0_column h_0_size h_0_hidden h_0_cell h_0_home h_0_waste h_0_stock h_0_past h_0_start h_0_known h_0_sorted h_0_row h_0_best I_0u27), (h_0_of, eI cI 9 (I_0u27 1)), (h_0_kept, eI cI 9 (I_0u27 2)), (h_0_column, eJ cJ 5 (L_0u30 0)), (h_0_size, eI cI 5 (I_0u27 3)), (h_0_hidden, eI cI 5 (I_0u27 4)), (h_0_cell, eI cI 2 (I_0u27 5)), (h_0_home, eI cI 4 (I_0u27 6)), (h_0_waste, eI cI 8 (I_0u27 7)), (h_0_stock, eI cI 8 (I_0u27 8)), (h_0_past, eJ cJ 1616 (L_0u30 1)), (h_0_start, eJ cJ 8 (L_0u30 2)), (h_0_known, eJ cJ 3216 (L_0u30 3)), (h_0_sorted, eJ cJ 3216 (L_0u30 4)), (h_0_row, eI cI 16 (I_0u27 9)), (h_0_best, eJ cJ 8 (L_0u30 5))]) hCF hK (c_X6_store_start l D cI cJ h_0 h_0_of h_0_kept h_0_column h_0_size h_0_hidden h_0_cell h_0_home h_0_waste h_0_stock h_0_past h_0_start h_0_known h_0_sorted h_0_row h_0_best I_0u27 L_0 (nI 0) L_0u30 hc31) (cwV 2 hts (TBL_V mw_209 mw_210 mw_211 mw_5 mw_212) rfl rfl rfl pmX6_store ⟨Nat.le_of_ble_eq_true rfl, Nat.le_of_ble_eq_true rfl⟩) hS hA [0, 1, 2, 3, 4, 5, 6, 7, 8, 9, 10, 11, 12, 13, 14, 15] [] rfl rfl rfl rfl (by decide) rfl rfl rfl hl.1 rfl (Nat.le_of_ble_eq_true rfl) ⟨Nat.zero_le _, Nat.zero_le _⟩ dX6_odds_73 rfl (fun H locs hS => ?_)
      refine lv_iconst (v := (nI 0)) hx hb dX6_odds_76 (by decide) ?_
      refine lv_istore (lv' := [(6, .int (nI 0)), (0, .ref h_0), (1, .int v1), (2, .int v2), (3, .int v3), (4, .int v4)]) hx hb dX6_odds_77 hl (by decide) rfl (fun ls hl => ?_)
      exact L79 FU I_0u27 L_0u30 v1 v2 v3 v4 (nI 0) _ _ _ hS (lv_sub hl [1, 2, 3, 4, 5, 0] rfl) hF
    · replace hF := ifp hF c_29
      refine lv_iconst (v := (nI 0)) hx hb dX6_odds_65 (by decide) ?_
      have e9_0 := Option.some.inj hF
      obtain ⟨f9_0, e9_1⟩ := Prod.mk.inj e9_0
      obtain ⟨f9_1, e9_2⟩ := Prod.mk.inj e9_1
      subst f9_0
      subst f9_1
      subst e9_2
      exact kret _ _ _ _ hS dX6_odds_66
  have B46 : ∀ (I_0 : Nat → Nat → Int32) (L_0 : Nat → Nat → Int64) (v1 : Int32) (v2 : Int32) (v3 : Int32) (v4 : Int32) (s0 : Int32) (H : Heap) (locs : List Loc) (ls : Array Slot), HS D A H0 [(h_0, oX6 h_0_of h_0_kept h_0_column h_0_size h_0_hidden h_0_cell h_0_home h_0_waste h_0_stock h_0_past h_0_start h_0_known h_0_sorted h_0_row h_0_best I_0), (h_0_of, eI cI 9 (I_0 1)), (h_0_kept, eI cI 9 (I_0 2)), (h_0_column, eJ cJ 5 (L_0 0)), (h_0_size, eI cI 5 (I_0 3)), (h_0_hidden, eI cI 5 (I_0 4)), (h_0_cell, eI cI 2 (I_0 5)), (h_0_home, eI cI 4 (I_0 6)), (h_0_waste, eI cI 8 (I_0 7)), (h_0_stock, eI cI 8 (I_0 8)), (h_0_past, eJ cJ 1616 (L_0 1)), (h_0_start, eJ cJ 8 (L_0 2)), (h_0_known, eJ cJ 3216 (L_0 3)), (h_0_sorted, eJ cJ 3216 (L_0 4)), (h_0_row, eI cI 16 (I_0 9)), (h_0_best, eJ cJ 8 (L_0 5))] H locs → lv_has ls 10 [(0, .ref h_0), (1, .int v1), (2, .int v2), (3, .int v3), (4, .int v4)] → F_X6_odds_b46   I_0 L_0 v1 v2 v3 v4 s0 = some (rv, r_I_0, r_L_0) → W p l e ({ frames := 7, cells := 0, slots := 0, locals := 173 } : Room) s m args below meth c H locs 0 0 Q (F0 m 46 ls [.int s0]) := by
    intro I_0 L_0 v1 v2 v3 v4 s0 H locs ls hS hl hF
    unfold F_X6_odds_b46 at hF
    refine lv_istore (lv' := [(5, .int s0), (0, .ref h_0), (1, .int v1), (2, .int v2), (3, .int v3), (4, .int v4)]) hx hb dX6_odds_46 hl (by decide) rfl (fun ls hl => ?_)
    refine lv_aload_n hx hb dX6_odds_48 rfl (lv_at hl 1 rfl) ?_
    refine lv_iload hx hb dX6_odds_49 (lv_at hl 0 rfl) ?_
    refine lv_if_eq (tgt := 58) hx hb dX6_odds_51 (by decide) (fun c_32 => ?_) (fun c_32 => ?_)
    · replace hF := ifp hF c_32
      refine lv_iconst (v := (nI 1)) hx hb dX6_odds_58 (by decide) ?_
      exact B59 I_0 L_0 v1 v2 v3 v4 (nI 1) _ _ _ hS (lv_sub hl [1, 2, 3, 4, 5] rfl) hF
    · replace hF := ifn hF c_32
      refine lv_iconst (v := (nI 0)) hx hb dX6_odds_54 (by decide) ?_
      refine lv_goto (tgt := 59) hx hb dX6_odds_55 (by decide) ?_
      exact B59 I_0 L_0 v1 v2 v3 v4 (nI 0) _ _ _ hS (lv_sub hl [1, 2, 3, 4, 5] rfl) hF
  unfold F_X6_odds at hF
  refine lv_iload_n hx hb dX6_odds_0 rfl (lv_at hl 1 rfl) ?_
  refine lv_iconst (v := (nI 0)) hx hb dX6_odds_1 (by decide) ?_
  refine lv_iconst (v := (nI 1)) hx hb dX6_odds_2 (by decide) ?_
  replace hF := cal1_e hF
  obtain ⟨x33, hc34, hF⟩ := hF
  refine kS_i (As := [.int v1, .int (nI 0), .int (nI 1)]) (rest := []) (wr := [(h_0, oX6 h_0_of h_0_kept h_0_column h_0_size h_0_hidden h_0_cell h_0_home h_0_waste h_0_stock h_0_past h_0_start h_0_known h_0_sorted h_0_row h_0_best I_0), (h_0_of, eI cI 9 (I_0 1)), (h_0_kept, eI cI 9 (I_0 2)), (h_0_column, eJ cJ 5 (L_0 0)), (h_0_size, eI cI 5 (I_0 3)), (h_0_hidden, eI cI 5 (I_0 4)), (h_0_cell, eI cI 2 (I_0 5)), (h_0_home, eI cI 4 (I_0 6)), (h_0_waste, eI cI 8 (I_0 7)), (h_0_stock, eI cI 8 (I_0 8)), (h_0_past, eJ cJ 1616 (L_0 1)), (h_0_start, eJ cJ 8 (L_0 2)), (h_0_known, eJ cJ 3216 (L_0 3)), (h_0_sorted, eJ cJ 3216 (L_0 4)), (h_0_row, eI cI 16 (I_0 9)), (h_0_best, eJ cJ 8 (L_0 5))]) (w2 := [(h_0, oX6 h_0_of h_0_kept h_0_column h_0_size h_0_hidden h_0_cell h_0_home h_0_waste h_0_stock h_0_past h_0_start h_0_known h_0_sorted h_0_row h_0_best I_0), (h_0_of, eI cI 9 (I_0 1)), (h_0_kept, eI cI 9 (I_0 2)), (h_0_column, eJ cJ 5 (L_0 0)), (h_0_size, eI cI 5 (I_0 3)), (h_0_hidden, eI cI 5 (I_0 4)), (h_0_cell, eI cI 2 (I_0 5)), (h_0_home, eI cI 4 (I_0 6)), (h_0_waste, eI cI 8 (I_0 7)), (h_0_stock, eI cI 8 (I_0 8)), (h_0_past, eJ cJ 1616 (L_0 1)), (h_0_start, eJ cJ 8 (L_0 2)), (h_0_known, eJ cJ 3216 (L_0 3)), (h_0_sorted, eJ cJ 3216 (L_0 4)), (h_0_row, eI cI 16 (I_0 9)), (h_0_best, eJ cJ 8 (L_0 5))]) hCF hK (c_X6_in l D cI cJ v1 (nI 0) (nI 1) x33 hc34) (va_cwS 3 hts (TBL_S mw_234 mw_235 mw_5 mw_236) rfl rfl rfl pmX6_in.2 ⟨Nat.le_of_ble_eq_true rfl, Nat.le_of_ble_eq_true rfl⟩) hS hA [] [0, 1, 2, 3, 4, 5, 6, 7, 8, 9, 10, 11, 12, 13, 14, 15] rfl rfl rfl rfl (by decide) rfl hl.1 rfl (Nat.le_of_ble_eq_true rfl) ⟨Nat.zero_le _, Nat.zero_le _⟩ dX6_odds_3 rfl (fun H locs hS => ?_)
  refine lv_if_eq (tgt := 45) hx hb dX6_odds_6 (by decide) (fun c_35 => ?_) (fun c_35 => ?_)
  · replace hF := ifp hF c_35
    refine lv_iconst (v := (nI 0)) hx hb dX6_odds_45 (by decide) ?_
    exact B46 I_0 L_0 v1 v2 v3 v4 (nI 0) _ _ _ hS (lv_sub hl [0, 1, 2, 3, 4] rfl) hF
  · replace hF := ifn hF c_35
    refine lv_iload_n hx hb dX6_odds_9 rfl (lv_at hl 2 rfl) ?_
    refine lv_iconst (v := (nI 0)) hx hb dX6_odds_10 (by decide) ?_
    refine lv_ldc (v := (nI 1000000)) hx hb hown q4 dX6_odds_11 ?_
    replace hF := cal1_e hF
    obtain ⟨x36, hc37, hF⟩ := hF
    refine kS_i (As := [.int v2, .int (nI 0), .int (nI 1000000)]) (rest := []) (wr := [(h_0, oX6 h_0_of h_0_kept h_0_column h_0_size h_0_hidden h_0_cell h_0_home h_0_waste h_0_stock h_0_past h_0_start h_0_known h_0_sorted h_0_row h_0_best I_0), (h_0_of, eI cI 9 (I_0 1)), (h_0_kept, eI cI 9 (I_0 2)), (h_0_column, eJ cJ 5 (L_0 0)), (h_0_size, eI cI 5 (I_0 3)), (h_0_hidden, eI cI 5 (I_0 4)), (h_0_cell, eI cI 2 (I_0 5)), (h_0_home, eI cI 4 (I_0 6)), (h_0_waste, eI cI 8 (I_0 7)), (h_0_stock, eI cI 8 (I_0 8)), (h_0_past, eJ cJ 1616 (L_0 1)), (h_0_start, eJ cJ 8 (L_0 2)), (h_0_known, eJ cJ 3216 (L_0 3)), (h_0_sorted, eJ cJ 3216 (L_0 4)), (h_0_row, eI cI 16 (I_0 9)), (h_0_best, eJ cJ 8 (L_0 5))]) (w2 := [(h_0, oX6 h_0_of h_0_kept h_0_column h_0_size h_0_hidden h_0_cell h_0_home h_0_waste h_0_stock h_0_past h_0_start h_0_known h_0_sorted h_0_row h_0_best I_0), (h_0_of, eI cI 9 (I_0 1)), (h_0_kept, eI cI 9 (I_0 2)), (h_0_column, eJ cJ 5 (L_0 0)), (h_0_size, eI cI 5 (I_0 3)), (h_0_hidden, eI cI 5 (I_0 4)), (h_0_cell, eI cI 2 (I_0 5)), (h_0_home, eI cI 4 (I_0 6)), (h_0_waste, eI cI 8 (I_0 7)), (h_0_stock, eI cI 8 (I_0 8)), (h_0_past, eJ cJ 1616 (L_0 1)), (h_0_start, eJ cJ 8 (L_0 2)), (h_0_known, eJ cJ 3216 (L_0 3)), (h_0_sorted, eJ cJ 3216 (L_0 4)), (h_0_row, eI cI 16 (I_0 9)), (h_0_best, eJ cJ 8 (L_0 5))]) hCF hK (c_X6_in l D cI cJ v2 (nI 0) (nI 1000000) x36 hc37) (va_cwS 3 hts (TBL_S mw_234 mw_235 mw_5 mw_236) rfl rfl rfl pmX6_in.2 ⟨Nat.le_of_ble_eq_true rfl, Nat.le_of_ble_eq_true rfl⟩) hS hA [] [0, 1, 2, 3, 4, 5, 6, 7, 8, 9, 10, 11, 12, 13, 14, 15] rfl rfl rfl rfl (by decide) rfl hl.1 rfl (Nat.le_of_ble_eq_true rfl) ⟨Nat.zero_le _, Nat.zero_le _⟩ dX6_odds_13 rfl (fun H locs hS => ?_)
    refine lv_if_eq (tgt := 45) hx hb dX6_odds_16 (by decide) (fun c_38 => ?_) (fun c_38 => ?_)
    · replace hF := ifp hF c_38
      refine lv_iconst (v := (nI 0)) hx hb dX6_odds_45 (by decide) ?_
      exact B46 I_0 L_0 v1 v2 v3 v4 (nI 0) _ _ _ hS (lv_sub hl [0, 1, 2, 3, 4] rfl) hF
    · replace hF := ifn hF c_38
      refine lv_iload_n hx hb dX6_odds_19 rfl (lv_at hl 3 rfl) ?_
      refine lv_iconst (v := (nI 1)) hx hb dX6_odds_20 (by decide) ?_
      refine lv_bipush (v := (nI 8)) hx hb dX6_odds_21 (by decide) ?_
      replace hF := cal1_e hF
      obtain ⟨x39, hc40, hF⟩ := hF
      refine kS_i (As := [.int v3, .int (nI 1), .int (nI 8)]) (rest := []) (wr := [(h_0, oX6 h_0_of h_0_kept h_0_column h_0_size h_0_hidden h_0_cell h_0_home h_0_waste h_0_stock h_0_past h_0_start h_0_known h_0_sorted h_0_row h_0_best I_0), (h_0_of, eI cI 9 (I_0 1)), (h_0_kept, eI cI 9 (I_0 2)), (h_0_column, eJ cJ 5 (L_0 0)), (h_0_size, eI cI 5 (I_0 3)), (h_0_hidden, eI cI 5 (I_0 4)), (h_0_cell, eI cI 2 (I_0 5)), (h_0_home, eI cI 4 (I_0 6)), (h_0_waste, eI cI 8 (I_0 7)), (h_0_stock, eI cI 8 (I_0 8)), (h_0_past, eJ cJ 1616 (L_0 1)), (h_0_start, eJ cJ 8 (L_0 2)), (h_0_known, eJ cJ 3216 (L_0 3)), (h_0_sorted, eJ cJ 3216 (L_0 4)), (h_0_row, eI cI 16 (I_0 9)), (h_0_best, eJ cJ 8 (L_0 5))]) (w2 := [(h_0, oX6 h_0_of h_0_kept h_0_column h_0_size h_0_hidden h_0_cell h_0_home h_0_waste h_0_stock h_0_past h_0_start h_0_known h_0_sorted h_0_row h_0_best I_0), (h_0_of, eI cI 9 (I_0 1)), (h_0_kept, eI cI 9 (I_0 2)), (h_0_column, eJ cJ 5 (L_0 0)), (h_0_size, eI cI 5 (I_0 3)), (h_0_hidden, eI cI 5 (I_0 4)), (h_0_cell, eI cI 2 (I_0 5)), (h_0_home, eI cI 4 (I_0 6)), (h_0_waste, eI cI 8 (I_0 7)), (h_0_stock, eI cI 8 (I_0 8)), (h_0_past, eJ cJ 1616 (L_0 1)), (h_0_start, eJ cJ 8 (L_0 2)), (h_0_known, eJ cJ 3216 (L_0 3)), (h_0_sorted, eJ cJ 3216 (L_0 4)), (h_0_row, eI cI 16 (I_0 9)), (h_0_best, eJ cJ 8 (L_0 5))]) hCF hK (c_X6_in l D cI cJ v3 (nI 1) (nI 8) x39 hc40) (va_cwS 3 hts (TBL_S mw_234 mw_235 mw_5 mw_236) rfl rfl rfl pmX6_in.2 ⟨Nat.le_of_ble_eq_true rfl, Nat.le_of_ble_eq_true rfl⟩) hS hA [] [0, 1, 2, 3, 4, 5, 6, 7, 8, 9, 10, 11, 12, 13, 14, 15] rfl rfl rfl rfl (by decide) rfl hl.1 rfl (Nat.le_of_ble_eq_true rfl) ⟨Nat.zero_le _, Nat.zero_le _⟩ dX6_odds_23 rfl (fun H locs hS => ?_)
      refine lv_if_eq (tgt := 45) hx hb dX6_odds_26 (by decide) (fun c_41 => ?_) (fun c_41 => ?_)
      · replace hF := ifp hF c_41
        refine lv_iconst (v := (nI 0)) hx hb dX6_odds_45 (by decide) ?_
        exact B46 I_0 L_0 v1 v2 v3 v4 (nI 0) _ _ _ hS (lv_sub hl [0, 1, 2, 3, 4] rfl) hF
      · replace hF := ifn hF c_41
        refine lv_iload hx hb dX6_odds_29 (lv_at hl 4 rfl) ?_
        refine lv_iconst (v := (nI 1)) hx hb dX6_odds_31 (by decide) ?_
        refine lv_sipush (v := (nI 200)) hx hb dX6_odds_32 (by decide) ?_
        replace hF := cal1_e hF
        obtain ⟨x42, hc43, hF⟩ := hF
        refine kS_i (As := [.int v4, .int (nI 1), .int (nI 200)]) (rest := []) (wr := [(h_0, oX6 h_0_of h_0_kept h_0_column h_0_size h_0_hidden h_0_cell h_0_home h_0_waste h_0_stock h_0_past h_0_start h_0_known h_0_sorted h_0_row h_0_best I_0), (h_0_of, eI cI 9 (I_0 1)), (h_0_kept, eI cI 9 (I_0 2)), (h_0_column, eJ cJ 5 (L_0 0)), (h_0_size, eI cI 5 (I_0 3)), (h_0_hidden, eI cI 5 (I_0 4)), (h_0_cell, eI cI 2 (I_0 5)), (h_0_home, eI cI 4 (I_0 6)), (h_0_waste, eI cI 8 (I_0 7)), (h_0_stock, eI cI 8 (I_0 8)), (h_0_past, eJ cJ 1616 (L_0 1)), (h_0_start, eJ cJ 8 (L_0 2)), (h_0_known, eJ cJ 3216 (L_0 3)), (h_0_sorted, eJ cJ 3216 (L_0 4)), (h_0_row, eI cI 16 (I_0 9)), (h_0_best, eJ cJ 8 (L_0 5))]) (w2 := [(h_0, oX6 h_0_of h_0_kept h_0_column h_0_size h_0_hidden h_0_cell h_0_home h_0_waste h_0_stock h_0_past h_0_start h_0_known h_0_sorted h_0_row h_0_best I_0), (h_0_of, eI cI 9 (I_0 1)), (h_0_kept, eI cI 9 (I_0 2)), (h_0_column, eJ cJ 5 (L_0 0)), (h_0_size, eI cI 5 (I_0 3)), (h_0_hidden, eI cI 5 (I_0 4)), (h_0_cell, eI cI 2 (I_0 5)), (h_0_home, eI cI 4 (I_0 6)), (h_0_waste, eI cI 8 (I_0 7)), (h_0_stock, eI cI 8 (I_0 8)), (h_0_past, eJ cJ 1616 (L_0 1)), (h_0_start, eJ cJ 8 (L_0 2)), (h_0_known, eJ cJ 3216 (L_0 3)), (h_0_sorted, eJ cJ 3216 (L_0 4)), (h_0_row, eI cI 16 (I_0 9)), (h_0_best, eJ cJ 8 (L_0 5))]) hCF hK (c_X6_in l D cI cJ v4 (nI 1) (nI 200) x42 hc43) (va_cwS 3 hts (TBL_S mw_234 mw_235 mw_5 mw_236) rfl rfl rfl pmX6_in.2 ⟨Nat.le_of_ble_eq_true rfl, Nat.le_of_ble_eq_true rfl⟩) hS hA [] [0, 1, 2, 3, 4, 5, 6, 7, 8, 9, 10, 11, 12, 13, 14, 15] rfl rfl rfl rfl (by decide) rfl hl.1 rfl (Nat.le_of_ble_eq_true rfl) ⟨Nat.zero_le _, Nat.zero_le _⟩ dX6_odds_35 rfl (fun H locs hS => ?_)
        refine lv_if_eq (tgt := 45) hx hb dX6_odds_38 (by decide) (fun c_44 => ?_) (fun c_44 => ?_)
        · replace hF := ifp hF c_44
          refine lv_iconst (v := (nI 0)) hx hb dX6_odds_45 (by decide) ?_
          exact B46 I_0 L_0 v1 v2 v3 v4 (nI 0) _ _ _ hS (lv_sub hl [0, 1, 2, 3, 4] rfl) hF
        · replace hF := ifn hF c_44
          refine lv_iconst (v := (nI 1)) hx hb dX6_odds_41 (by decide) ?_
          refine lv_goto (tgt := 46) hx hb dX6_odds_42 (by decide) ?_
          exact B46 I_0 L_0 v1 v2 v3 v4 (nI 1) _ _ _ hS (lv_sub hl [0, 1, 2, 3, 4] rfl) hF
