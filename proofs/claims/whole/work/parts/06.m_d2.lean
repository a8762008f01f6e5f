set_option maxHeartbeats 4000000 in
set_option maxRecDepth 100000 in
theorem c_X6_pop (l : Launch) (D : va_G) (cI cJ : ClassId) (h_0 h_0_of h_0_kept h_0_column h_0_size h_0_hidden h_0_cell h_0_home h_0_waste h_0_stock h_0_past h_0_start h_0_known h_0_sorted h_0_row h_0_best : Nat) (I_0 : Nat → Nat → Int32) (L_0 : Nat → Nat → Int64) (v1 : Int32) (rv : Int32) (r_I_0 : Nat → Nat → Int32) (r_L_0 : Nat → Nat → Int64) (hF : F_X6_pop I_0 L_0 v1 = some (rv, r_I_0, r_L_0)) : CtI l D [(cI, .int), (cJ, .long)] yX6_pop wtX6_pop ({ frames := 1, cells := 0, slots := 0, locals := 22 } : Room) [.ref h_0, .int v1] [(h_0, oX6 h_0_of h_0_kept h_0_column h_0_size h_0_hidden h_0_cell h_0_home h_0_waste h_0_stock h_0_past h_0_start h_0_known h_0_sorted h_0_row h_0_best I_0), (h_0_of, eI cI 9 (I_0 1)), (h_0_kept, eI cI 9 (I_0 2)), (h_0_column, eJ cJ 5 (L_0 0)), (h_0_size, eI cI 5 (I_0 3)), (h_0_hidden, eI cI 5 (I_0 4)), (h_0_cell, eI cI 2 (I_0 5)), (h_0_home, eI cI 4 (I_0 6)), (h_0_waste, eI cI 8 (I_0 7)), (h_0_stock, eI cI 8 (I_0 8)), (h_0_past, eJ cJ 1616 (L_0 1)), (h_0_start, eJ cJ 8 (L_0 2)), (h_0_known, eJ cJ 3216 (L_0 3)), (h_0_sorted, eJ cJ 3216 (L_0 4)), (h_0_row, eI cI 16 (I_0 9)), (h_0_best, eJ cJ 8 (L_0 5))] [(h_0, oX6 h_0_of h_0_kept h_0_column h_0_size h_0_hidden h_0_cell h_0_home h_0_waste h_0_stock h_0_past h_0_start h_0_known h_0_sorted h_0_row h_0_best r_I_0), (h_0_of, eI cI 9 (r_I_0 1)), (h_0_kept, eI cI 9 (r_I_0 2)), (h_0_column, eJ cJ 5 (r_L_0 0)), (h_0_size, eI cI 5 (r_I_0 3)), (h_0_hidden, eI cI 5 (r_I_0 4)), (h_0_cell, eI cI 2 (r_I_0 5)), (h_0_home, eI cI 4 (r_I_0 6)), (h_0_waste, eI cI 8 (r_I_0 7)), (h_0_stock, eI cI 8 (r_I_0 8)), (h_0_past, eJ cJ 1616 (r_L_0 1)), (h_0_start, eJ cJ 8 (r_L_0 2)), (h_0_known, eJ cJ 3216 (r_L_0 3)), (h_0_sorted, eJ cJ 3216 (r_L_0 4)), (h_0_row, eI cI 16 (r_I_0 9)), (h_0_best, eJ cJ 8 (r_L_0 5))] rv := by
  refine CtI.of (cc := cX6_pop) (maxL := 3) (by decide) rfl (Nat.le_of_ble_eq_true rfl) ?_
  intro p e s m args below meth c A H0 Q ls X hS hl kret
  have hCF := X.1
  obtain ⟨⟨hx, hb, hml, hown, hts⟩, hK, hA⟩ := X
  have hl : lv_has ls 3 [(0, .ref h_0), (1, .int v1)] := hl
  have q0 := hts (.fieldLink RX6 39 "PatienceryModel" "hidden" "[I") (List.mem_cons_of_mem _ mw_165)
  have inX6 : ∀ w ∈ u_ws RX6 TX6 32, w ∈ wtX6_pop := fun w h => List.mem_cons_of_mem _ (inlX6 w h)
  have q2 := hts (.fieldLink RX6 36 "PatienceryModel" "size" "[I") (List.mem_cons_of_mem _ mw_164)
  have q3 := hts (.fieldLink RX6 32 "PatienceryModel" "column" "[J") (List.mem_cons_of_mem _ mw_163)
  have q4 := hts (.constantLong RX6 157 (15)) (List.mem_cons_of_mem _ mw_338)
  have q5 := hts (.constantLong RX6 163 (-1)) (List.mem_cons_of_mem _ mw_505)
  have B93 : ∀ (I_0 : Nat → Nat → Int32) (L_0 : Nat → Nat → Int64) (v2 : Int32) (s1 : Int32) (s2 : Int32) (H : Heap) (locs : List Loc) (ls : Array Slot), HS D A H0 [(h_0, oX6 h_0_of h_0_kept h_0_column h_0_size h_0_hidden h_0_cell h_0_home h_0_waste h_0_stock h_0_past h_0_start h_0_known h_0_sorted h_0_row h_0_best I_0), (h_0_of, eI cI 9 (I_0 1)), (h_0_kept, eI cI 9 (I_0 2)), (h_0_column, eJ cJ 5 (L_0 0)), (h_0_size, eI cI 5 (I_0 3)), (h_0_hidden, eI cI 5 (I_0 4)), (h_0_cell, eI cI 2 (I_0 5)), (h_0_home, eI cI 4 (I_0 6)), (h_0_waste, eI cI 8 (I_0 7)), (h_0_stock, eI cI 8 (I_0 8)), (h_0_past, eJ cJ 1616 (L_0 1)), (h_0_start, eJ cJ 8 (L_0 2)), (h_0_known, eJ cJ 3216 (L_0 3)), (h_0_sorted, eJ cJ 3216 (L_0 4)), (h_0_row, eI cI 16 (I_0 9)), (h_0_best, eJ cJ 8 (L_0 5))] H locs → lv_has ls 3 [(2, .int v2)] → F_X6_pop_b93   I_0 L_0 v2 s1 s2 = some (rv, r_I_0, r_L_0) → W p l e ({ frames := 1, cells := 0, slots := 0, locals := 22 } : Room) s m args below meth c H locs 0 0 Q (F0 m 93 ls [.int s2, .int s1, .ref h_0_hidden]) := by
    intro I_0 L_0 v2 s1 s2 H locs ls hS hl hF
    unfold F_X6_pop_b93 at hF
    replace hF := wrA_e hF
    obtain ⟨hi2, I_0u1, eI_0u1, hF⟩ := hF
    refine r_iast (w2 := [(h_0, oX6 h_0_of h_0_kept h_0_column h_0_size h_0_hidden h_0_cell h_0_home h_0_waste h_0_stock h_0_past h_0_start h_0_known h_0_sorted h_0_row h_0_best I_0u1), (h_0_of, eI cI 9 (I_0u1 1)), (h_0_kept, eI cI 9 (I_0u1 2)), (h_0_column, eJ cJ 5 (L_0 0)), (h_0_size, eI cI 5 (I_0u1 3)), (h_0_hidden, eI cI 5 (I_0u1 4)), (h_0_cell, eI cI 2 (I_0u1 5)), (h_0_home, eI cI 4 (I_0u1 6)), (h_0_waste, eI cI 8 (I_0u1 7)), (h_0_stock, eI cI 8 (I_0u1 8)), (h_0_past, eJ cJ 1616 (L_0 1)), (h_0_start, eJ cJ 8 (L_0 2)), (h_0_known, eJ cJ 3216 (L_0 3)), (h_0_sorted, eJ cJ 3216 (L_0 4)), (h_0_row, eI cI 16 (I_0u1 9)), (h_0_best, eJ cJ 8 (L_0 5))]) hx hb hK hS 5 rfl rfl hi2 dX6_pop_93 (by rw [eI_0u1]; rfl) (fun H locs hS => ?_)
    refine lv_iload_n hx hb dX6_pop_94 rfl (lv_at hl 0 rfl) ?_
    have e9_0 := Option.some.inj hF
    obtain ⟨f9_0, e9_1⟩ := Prod.mk.inj e9_0
    obtain ⟨f9_1, e9_2⟩ := Prod.mk.inj e9_1
    subst f9_0
    subst f9_1
    subst e9_2
    exact kret _ _ _ _ hS dX6_pop_95
  have B87 : ∀ (I_0 : Nat → Nat → Int32) (L_0 : Nat → Nat → Int64) (v1 : Int32) (v2 : Int32) (s1 : Int32) (H : Heap) (locs : List Loc) (ls : Array Slot), HS D A H0 [(h_0, oX6 h_0_of h_0_kept h_0_column h_0_size h_0_hidden h_0_cell h_0_home h_0_waste h_0_stock h_0_past h_0_start h_0_known h_0_sorted h_0_row h_0_best I_0), (h_0_of, eI cI 9 (I_0 1)), (h_0_kept, eI cI 9 (I_0 2)), (h_0_column, eJ cJ 5 (L_0 0)), (h_0_size, eI cI 5 (I_0 3)), (h_0_hidden, eI cI 5 (I_0 4)), (h_0_cell, eI cI 2 (I_0 5)), (h_0_home, eI cI 4 (I_0 6)), (h_0_waste, eI cI 8 (I_0 7)), (h_0_stock, eI cI 8 (I_0 8)), (h_0_past, eJ cJ 1616 (L_0 1)), (h_0_start, eJ cJ 8 (L_0 2)), (h_0_known, eJ cJ 3216 (L_0 3)), (h_0_sorted, eJ cJ 3216 (L_0 4)), (h_0_row, eI cI 16 (I_0 9)), (h_0_best, eJ cJ 8 (L_0 5))] H locs → lv_has ls 3 [(0, .ref h_0), (1, .int v1), (2, .int v2)] → F_X6_pop_b87   I_0 L_0 v1 v2 s1 = some (rv, r_I_0, r_L_0) → W p l e ({ frames := 1, cells := 0, slots := 0, locals := 22 } : Room) s m args below meth c H locs 0 0 Q (F0 m 87 ls [.int s1, .ref h_0_hidden]) := by
    intro I_0 L_0 v1 v2 s1 H locs ls hS hl hF
    unfold F_X6_pop_b87 at hF
    refine lv_aload_n hx hb dX6_pop_87 rfl (lv_at hl 0 rfl) ?_
    refine r_get hx hb hts inX6 hown hK hS 0 17 rfl rfl (by decide) q0 rfl dX6_pop_88 ?_
    refine lv_iload_n hx hb dX6_pop_91 rfl (lv_at hl 1 rfl) ?_
    replace hF := rdA_e hF
    obtain ⟨hi4, x3, ex3, hF⟩ := hF
    refine r_iald hx hb hK hS 5 rfl rfl hi4 dX6_pop_92 ex3 ?_
    exact B93 I_0 L_0 v2 s1 x3 _ _ _ hS (lv_sub hl [2] rfl) hF
  unfold F_X6_pop at hF
  refine lv_aload_n hx hb dX6_pop_0 rfl (lv_at hl 0 rfl) ?_
  refine r_get hx hb hts inX6 hown hK hS 0 16 rfl rfl (by decide) q2 rfl dX6_pop_1 ?_
  refine lv_iload_n hx hb dX6_pop_4 rfl (lv_at hl 1 rfl) ?_
  refine lv_dup2_11 hx hb dX6_pop_5 rfl rfl ?_
  replace hF := rdA_e hF
  obtain ⟨hi6, x5, ex5, hF⟩ := hF
  refine r_iald hx hb hK hS 4 rfl rfl hi6 dX6_pop_6 ex5 ?_
  refine lv_iconst (v := (nI 1)) hx hb dX6_pop_7 (by decide) ?_
  refine lv_isub hx hb dX6_pop_8 ?_
  replace hF := wrA_e hF
  obtain ⟨hi8, I_0u7, eI_0u7, hF⟩ := hF
  refine r_iast (w2 := [(h_0, oX6 h_0_of h_0_kept h_0_column h_0_size h_0_hidden h_0_cell h_0_home h_0_waste h_0_stock h_0_past h_0_start h_0_known h_0_sorted h_0_row h_0_best I_0u7), (h_0_of, eI cI 9 (I_0u7 1)), (h_0_kept, eI cI 9 (I_0u7 2)), (h_0_column, eJ cJ 5 (L_0 0)), (h_0_size, eI cI 5 (I_0u7 3)), (h_0_hidden, eI cI 5 (I_0u7 4)), (h_0_cell, eI cI 2 (I_0u7 5)), (h_0_home, eI cI 4 (I_0u7 6)), (h_0_waste, eI cI 8 (I_0u7 7)), (h_0_stock, eI cI 8 (I_0u7 8)), (h_0_past, eJ cJ 1616 (L_0 1)), (h_0_start, eJ cJ 8 (L_0 2)), (h_0_known, eJ cJ 3216 (L_0 3)), (h_0_sorted, eJ cJ 3216 (L_0 4)), (h_0_row, eI cI 16 (I_0u7 9)), (h_0_best, eJ cJ 8 (L_0 5))]) hx hb hK hS 4 rfl rfl hi8 dX6_pop_9 (by rw [eI_0u7]; rfl) (fun H locs hS => ?_)
  refine lv_aload_n hx hb dX6_pop_10 rfl (lv_at hl 0 rfl) ?_
  refine lv_iload_n hx hb dX6_pop_11 rfl (lv_at hl 1 rfl) ?_
  refine lv_aload_n hx hb dX6_pop_12 rfl (lv_at hl 0 rfl) ?_
  refine r_get hx hb hts inX6 hown hK hS 0 16 rfl rfl (by decide) q2 rfl dX6_pop_13 ?_
  refine lv_iload_n hx hb dX6_pop_16 rfl (lv_at hl 1 rfl) ?_
  replace hF := rdA_e hF
  obtain ⟨hi10, x9, ex9, hF⟩ := hF
  refine r_iald hx hb hK hS 4 rfl rfl hi10 dX6_pop_17 ex9 ?_
  replace hF := cal1_e hF
  obtain ⟨x11, hc12, hF⟩ := hF
  refine kV_i (As := [.int v1, .int x9]) (rest := []) (wr := []) (w2 := [(h_0, oX6 h_0_of h_0_kept h_0_column h_0_size h_0_hidden h_0_cell h_0_home h_0_waste h_0_stock h_0_past h_0_start h_0_known h_0_sorted h_0_row h_0_best I_0u7), (h_0_of, eI cI 9 (I_0u7 1)), (h_0_kept, eI cI 9 (I_0u7 2)), (h_0_column, eJ cJ 5 (L_0 0)), (h_0_size, eI cI 5 (I_0u7 3)), (h_0_hidden, eI cI 5 (I_0u7 4)), (h_0_cell, eI cI 2 (I_0u7 5)), (h_0_home, eI cI 4 (I_0u7 6)), (h_0_waste, eI cI 8 (I_0u7 7)), (h_0_stock, eI cI 8 (I_0u7 8)), (h_0_past, eJ cJ 1616 (L_0 1)), (h_0_start, eJ cJ 8 (L_0 2)), (h_0_known, eJ cJ 3216 (L_0 3)), (h_0_sorted, eJ cJ 3216 (L_0 4)), (h_0_row, eI cI 16 (I_0u7 9)), (h_0_best, eJ cJ 8 (L_0 5))]) hCF hK (c_X6_cardAt l D cI cJ h_0 h_0_of h_0_kept h_0_column h_0_size h_0_hidden h_0_cell h_0_home h_0_waste h_0_stock h_0_past h_0_start h_0_known h_0_sorted h_0_row h_0_best I_0u7 L_0 v1 x9 x11 hc12) (cwV 2 hts (TBL_V mw_461 mw_462 mw_463 mw_5 mw_464) rfl rfl rfl pmX6_cardAt ⟨Nat.le_of_ble_eq_true rfl, Nat.le_of_ble_eq_true rfl⟩) hS hA [0, 1, 2, 3, 4, 5, 6, 7, 8, 9, 10, 11, 12, 13, 14, 15] [] rfl rfl rfl rfl (by decide) rfl rfl rfl hl.1 rfl (Nat.le_of_ble_eq_true rfl) ⟨Nat.zero_le _, Nat.zero_le _⟩ dX6_pop_18 rfl (fun H locs hS => ?_)
  refine lv_istore_n (lv' := [(2, .int x11), (0, .ref h_0), (1, .int v1)]) hx hb dX6_pop_21 rfl hl (by decide) rfl (fun ls hl => ?_)
  refine lv_aload_n hx hb dX6_pop_22 rfl (lv_at hl 1 rfl) ?_
  refine r_get hx hb hts inX6 hown hK hS 0 15 rfl rfl (by decide) q3 rfl dX6_pop_23 ?_
  refine lv_iload_n hx hb dX6_pop_26 rfl (lv_at hl 2 rfl) ?_
  refine lv_dup2_11 hx hb dX6_pop_27 rfl rfl ?_
  replace hF := rdA_e hF
  obtain ⟨hi14, x13, ex13, hF⟩ := hF
  refine r_lald hx hb hK hS 3 rfl rfl hi14 dX6_pop_28 ex13 ?_
  refine lv_ldc2 (v := (lN 15)) hx hb hown q4 dX6_pop_29 ?_
  refine lv_iconst (v := (nI 4)) hx hb dX6_pop_32 (by decide) ?_
  refine lv_aload_n hx hb dX6_pop_33 rfl (lv_at hl 1 rfl) ?_
  refine r_get hx hb hts inX6 hown hK hS 0 16 rfl rfl (by decide) q2 rfl dX6_pop_34 ?_
  refine lv_iload_n hx hb dX6_pop_37 rfl (lv_at hl 2 rfl) ?_
  replace hF := rdA_e hF
  obtain ⟨hi16, x15, ex15, hF⟩ := hF
  refine r_iald hx hb hK hS 4 rfl rfl hi16 dX6_pop_38 ex15 ?_
  refine lv_imul hx hb dX6_pop_39 ?_
  refine lv_lshl hx hb dX6_pop_40 rfl ?_
  refine lv_ldc2 (v := (-1)) hx hb hown q5 dX6_pop_41 ?_
  refine lv_lxor hx hb dX6_pop_44 ?_
  refine lv_land hx hb dX6_pop_45 ?_
  replace hF := wrJ_e hF
  obtain ⟨hi18, L_0u17, eL_0u17, hF⟩ := hF
  refine r_last (w2 := [(h_0, oX6 h_0_of h_0_kept h_0_column h_0_size h_0_hidden h_0_cell h_0_home h_0_waste h_0_stock h_0_past h_0_start h_0_known h_0_sorted h_0_row h_0_best I_0u7), (h_0_of, eI cI 9 (I_0u7 1)), (h_0_kept, eI cI 9 (I_0u7 2)), (h_0_column, eJ cJ 5 (L_0u17 0)), (h_0_size, eI cI 5 (I_0u7 3)), (h_0_hidden, eI cI 5 (I_0u7 4)), (h_0_cell, eI cI 2 (I_0u7 5)), (h_0_home, eI cI 4 (I_0u7 6)), (h_0_waste, eI cI 8 (I_0u7 7)), (h_0_stock, eI cI 8 (I_0u7 8)), (h_0_past, eJ cJ 1616 (L_0u17 1)), (h_0_start, eJ cJ 8 (L_0u17 2)), (h_0_known, eJ cJ 3216 (L_0u17 3)), (h_0_sorted, eJ cJ 3216 (L_0u17 4)), (h_0_row, eI cI 16 (I_0u7 9)), (h_0_best, eJ cJ 8 (L_0u17 5))]) hx hb hK hS 3 rfl rfl hi18 dX6_pop_46 (by rw [eL_0u17]; rfl) (fun H locs hS => ?_)
  refine lv_aload_n hx hb dX6_pop_47 rfl (lv_at hl 1 rfl) ?_
  refine r_get hx hb hts inX6 hown hK hS 0 17 rfl rfl (by decide) q0 rfl dX6_pop_48 ?_
  refine lv_iload_n hx hb dX6_pop_51 rfl (lv_at hl 2 rfl) ?_
  refine lv_aload_n hx hb dX6_pop_52 rfl (lv_at hl 1 rfl) ?_
  refine r_get hx hb hts inX6 hown hK hS 0 16 rfl rfl (by decide) q2 rfl dX6_pop_53 ?_
  refine lv_iload_n hx hb dX6_pop_56 rfl (lv_at hl 2 rfl) ?_
  replace hF := rdA_e hF
  obtain ⟨hi20, x19, ex19, hF⟩ := hF
  refine r_iald hx hb hK hS 4 rfl rfl hi20 dX6_pop_57 ex19 ?_
  refine lv_if_le (tgt := 87) hx hb dX6_pop_58 (by decide) (fun c_21 => ?_) (fun c_21 => ?_)
  · replace hF := ifp hF c_21
    exact B87 I_0u7 L_0u17 v1 x11 v1 _ _ _ hS (lv_sub hl [1, 2, 0] rfl) hF
  · replace hF := ifn hF c_21
    refine lv_aload_n hx hb dX6_pop_61 rfl (lv_at hl 1 rfl) ?_
    refine r_get hx hb hts inX6 hown hK hS 0 17 rfl rfl (by decide) q0 rfl dX6_pop_62 ?_
    refine lv_iload_n hx hb dX6_pop_65 rfl (lv_at hl 2 rfl) ?_
    replace hF := rdA_e hF
    obtain ⟨hi23, x22, ex22, hF⟩ := hF
    refine r_iald hx hb hK hS 5 rfl rfl hi23 dX6_pop_66 ex22 ?_
    refine lv_aload_n hx hb dX6_pop_67 rfl (lv_at hl 1 rfl) ?_
    refine r_get hx hb hts inX6 hown hK hS 0 16 rfl rfl (by decide) q2 rfl dX6_pop_68 ?_
    refine lv_iload_n hx hb dX6_pop_71 rfl (lv_at hl 2 rfl) ?_
    replace hF := rdA_e hF
    obtain ⟨hi25, x24, ex24, hF⟩ := hF
    refine r_iald hx hb hK hS 4 rfl rfl hi25 dX6_pop_72 ex24 ?_
    refine lv_icmp_lt (tgt := 87) hx hb dX6_pop_73 (by decide) (fun c_26 => ?_) (fun c_26 => ?_)
    · replace hF := ifp hF c_26
      exact B87 I_0u7 L_0u17 v1 x11 v1 _ _ _ hS (lv_sub hl [1, 2, 0] rfl) hF
    · replace hF := ifn hF c_26
      refine lv_aload_n hx hb dX6_pop_76 rfl (lv_at hl 1 rfl) ?_
      refine r_get hx hb hts inX6 hown hK hS 0 16 rfl rfl (by decide) q2 rfl dX6_pop_77 ?_
      refine lv_iload_n hx hb dX6_pop_80 rfl (lv_at hl 2 rfl) ?_
      replace hF := rdA_e hF
      obtain ⟨hi28, x27, ex27, hF⟩ := hF
      refine r_iald hx hb hK hS 4 rfl rfl hi28 dX6_pop_81 ex27 ?_
      refine lv_iconst (v := (nI 1)) hx hb dX6_pop_82 (by decide) ?_
      refine lv_isub hx hb dX6_pop_83 ?_
      refine lv_goto (tgt := 93) hx hb dX6_pop_84 (by decide) ?_
      exact B93 I_0u7 L_0u17 x11 v1 (x27 - (nI 1)) _ _ _ hS (lv_sub hl [0] rfl) hF
set_option maxHeartbeats 4000000 in
set_option maxRecDepth 100000 in
theorem c_X6_suitOf (l : Launch) (D : va_G) (cI cJ : ClassId) (h_0 h_0_of h_0_kept h_0_column h_0_size h_0_hidden h_0_cell h_0_home h_0_waste h_0_stock h_0_past h_0_start h_0_known h_0_sorted h_0_row h_0_best : Nat) (I_0 : Nat → Nat → Int32) (L_0 : Nat → Nat → Int64) (v1 : Int32) (rv : Int32) (hF : F_X6_suitOf I_0 L_0 v1 = some rv) : CtI l D [(cI, .int), (cJ, .long)] yX6_suitOf wtX6_suitOf ({ frames := 0, cells := 0, slots := 0, locals := 0 } : Room) [.ref h_0, .int v1] [(h_0, oX6 h_0_of h_0_kept h_0_column h_0_size h_0_hidden h_0_cell h_0_home h_0_waste h_0_stock h_0_past h_0_start h_0_known h_0_sorted h_0_row h_0_best I_0), (h_0_of, eI cI 9 (I_0 1)), (h_0_kept, eI cI 9 (I_0 2)), (h_0_column, eJ cJ 5 (L_0 0)), (h_0_size, eI cI 5 (I_0 3)), (h_0_hidden, eI cI 5 (I_0 4)), (h_0_cell, eI cI 2 (I_0 5)), (h_0_home, eI cI 4 (I_0 6)), (h_0_waste, eI cI 8 (I_0 7)), (h_0_stock, eI cI 8 (I_0 8)), (h_0_past, eJ cJ 1616 (L_0 1)), (h_0_start, eJ cJ 8 (L_0 2)), (h_0_known, eJ cJ 3216 (L_0 3)), (h_0_sorted, eJ cJ 3216 (L_0 4)), (h_0_row, eI cI 16 (I_0 9)), (h_0_best, eJ cJ 8 (L_0 5))] [(h_0, oX6 h_0_of h_0_kept h_0_column h_0_size h_0_hidden h_0_cell h_0_home h_0_waste h_0_stock h_0_past h_0_start h_0_known h_0_sorted h_0_row h_0_best I_0), (h_0_of, eI cI 9 (I_0 1)), (h_0_kept, eI cI 9 (I_0 2)), (h_0_column, eJ cJ 5 (L_0 0)), (h_0_size, eI cI 5 (I_0 3)), (h_0_hidden, eI cI 5 (I_0 4)), (h_0_cell, eI cI 2 (I_0 5)), (h_0_home, eI cI 4 (I_0 6)), (h_0_waste, eI cI 8 (I_0 7)), (h_0_stock, eI cI 8 (I_0 8)), (h_0_past, eJ cJ 1616 (L_0 1)), (h_0_start, eJ cJ 8 (L_0 2)), (h_0_known, eJ cJ 3216 (L_0 3)), (h_0_sorted, eJ cJ 3216 (L_0 4)), (h_0_row, eI cI 16 (I_0 9)), (h_0_best, eJ cJ 8 (L_0 5))] rv := by
  refine CtI.of (cc := cX6_suitOf) (maxL := 2) (by decide) rfl (Nat.le_of_ble_eq_true rfl) ?_
  intro p e s m args below meth c A H0 Q ls X hS hl kret
  have hCF := X.1
  obtain ⟨⟨hx, hb, hml, hown, hts⟩, hK, hA⟩ := X
  have hl : lv_has ls 2 [(0, .ref h_0), (1, .int v1)] := hl
  have q0 := hts (.fieldLink RX6 25 "PatienceryModel" "of" "[I") (List.mem_cons_of_mem _ mw_161)
  have inX6 : ∀ w ∈ u_ws RX6 TX6 32, w ∈ wtX6_suitOf := fun w h => List.mem_cons_of_mem _ (inlX6 w h)
  unfold F_X6_suitOf at hF
  refine lv_iload_n hx hb dX6_suitOf_0 rfl (lv_at hl 1 rfl) ?_
  refine lv_aload_n hx hb dX6_suitOf_1 rfl (lv_at hl 0 rfl) ?_
  refine r_get hx hb hts inX6 hown hK hS 0 10 rfl rfl (by decide) q0 rfl dX6_suitOf_2 ?_
  refine lv_iconst (v := (nI 1)) hx hb dX6_suitOf_5 (by decide) ?_
  replace hF := rdA_e hF
  obtain ⟨hi2, x1, ex1, hF⟩ := hF
  refine r_iald hx hb hK hS 1 rfl rfl hi2 dX6_suitOf_6 ex1 ?_
  replace hF := nz_e hF
  obtain ⟨hne3, hF⟩ := hF
  refine lv_idiv hx hb dX6_suitOf_7 hne3 ?_
  have e9_0 := Option.some.inj hF
  subst e9_0
  exact kret _ _ _ _ hS dX6_suitOf_8
set_option maxHeartbeats 4000000 in
set_option maxRecDepth 100000 in
theorem c_X6_rankOf (l : Launch) (D : va_G) (cI cJ : ClassId) (h_0 h_0_of h_0_kept h_0_column h_0_size h_0_hidden h_0_cell h_0_home h_0_waste h_0_stock h_0_past h_0_start h_0_known h_0_sorted h_0_row h_0_best : Nat) (I_0 : Nat → Nat → Int32) (L_0 : Nat → Nat → Int64) (v1 : Int32) (rv : Int32) (hF : F_X6_rankOf I_0 L_0 v1 = some rv) : CtI l D [(cI, .int), (cJ, .long)] yX6_rankOf wtX6_rankOf ({ frames := 0, cells := 0, slots := 0, locals := 0 } : Room) [.ref h_0, .int v1] [(h_0, oX6 h_0_of h_0_kept h_0_column h_0_size h_0_hidden h_0_cell h_0_home h_0_waste h_0_stock h_0_past h_0_start h_0_known h_0_sorted h_0_row h_0_best I_0), (h_0_of, eI cI 9 (I_0 1)), (h_0_kept, eI cI 9 (I_0 2)), (h_0_column, eJ cJ 5 (L_0 0)), (h_0_size, eI cI 5 (I_0 3)), (h_0_hidden, eI cI 5 (I_0 4)), (h_0_cell, eI cI 2 (I_0 5)), (h_0_home, eI cI 4 (I_0 6)), (h_0_waste, eI cI 8 (I_0 7)), (h_0_stock, eI cI 8 (I_0 8)), (h_0_past, eJ cJ 1616 (L_0 1)), (h_0_start, eJ cJ 8 (L_0 2)), (h_0_known, eJ cJ 3216 (L_0 3)), (h_0_sorted, eJ cJ 3216 (L_0 4)), (h_0_row, eI cI 16 (I_0 9)), (h_0_best, eJ cJ 8 (L_0 5))] [(h_0, oX6 h_0_of h_0_kept h_0_column h_0_size h_0_hidden h_0_cell h_0_home h_0_waste h_0_stock h_0_past h_0_start h_0_known h_0_sorted h_0_row h_0_best I_0), (h_0_of, eI cI 9 (I_0 1)), (h_0_kept, eI cI 9 (I_0 2)), (h_0_column, eJ cJ 5 (L_0 0)), (h_0_size, eI cI 5 (I_0 3)), (h_0_hidden, eI cI 5 (I_0 4)), (h_0_cell, eI cI 2 (I_0 5)), (h_0_home, eI cI 4 (I_0 6)), (h_0_waste, eI cI 8 (I_0 7)), (h_0_stock, eI cI 8 (I_0 8)), (h_0_past, eJ cJ 1616 (L_0 1)), (h_0_start, eJ cJ 8 (L_0 2)), (h_0_known, eJ cJ 3216 (L_0 3)), (h_0_sorted, eJ cJ 3216 (L_0 4)), (h_0_row, eI cI 16 (I_0 9)), (h_0_best, eJ cJ 8 (L_0 5))] rv := by
  refine CtI.of (cc := cX6_rankOf) (maxL := 2) (by decide) rfl (Nat.le_of_ble_eq_true rfl) ?_
  intro p e s m args below meth c A H0 Q ls X hS hl kret
  have hCF := X.1
  obtain ⟨⟨hx, hb, hml, hown, hts⟩, hK, hA⟩ := X
  have hl : lv_has ls 2 [(0, .ref h_0), (1, .int v1)] := hl
  have q0 := hts (.fieldLink RX6 25 "PatienceryModel" "of" "[I") (List.mem_cons_of_mem _ mw_161)
  have inX6 : ∀ w ∈ u_ws RX6 TX6 32, w ∈ wtX6_rankOf := fun w h => List.mem_cons_of_mem _ (inlX6 w h)
  unfold F_X6_rankOf at hF
  refine lv_iload_n hx hb dX6_rankOf_0 rfl (lv_at hl 1 rfl) ?_
  refine lv_aload_n hx hb dX6_rankOf_1 rfl (lv_at hl 0 rfl) ?_
  refine r_get hx hb hts inX6 hown hK hS 0 10 rfl rfl (by decide) q0 rfl dX6_rankOf_2 ?_
  refine lv_iconst (v := (nI 1)) hx hb dX6_rankOf_5 (by decide) ?_
  replace hF := rdA_e hF
  obtain ⟨hi2, x1, ex1, hF⟩ := hF
  refine r_iald hx hb hK hS 1 rfl rfl hi2 dX6_rankOf_6 ex1 ?_
  replace hF := nz_e hF
  obtain ⟨hne3, hF⟩ := hF
  refine lv_irem hx hb dX6_rankOf_7 hne3 ?_
  refine lv_iconst (v := (nI 1)) hx hb dX6_rankOf_8 (by decide) ?_
  refine lv_iadd hx hb dX6_rankOf_9 ?_
  have e9_0 := Option.some.inj hF
  subst e9_0
  exact kret _ _ _ _ hS dX6_rankOf_10
set_option maxHeartbeats 4000000 in
set_option maxRecDepth 100000 in
theorem c_X6_fits (l : Launch) (D : va_G) (cI cJ : ClassId) (h_0 h_0_of h_0_kept h_0_column h_0_size h_0_hidden h_0_cell h_0_home h_0_waste h_0_stock h_0_past h_0_start h_0_known h_0_sorted h_0_row h_0_best : Nat) (I_0 : Nat → Nat → Int32) (L_0 : Nat → Nat → Int64) (v1 : Int32) (v2 : Int32) (rv : Int32) (hF : F_X6_fits I_0 L_0 v1 v2 = some rv) : CtI l D [(cI, .int), (cJ, .long)] yX6_fits wtX6_fits ({ frames := 1, cells := 0, slots := 0, locals := 21 } : Room) [.ref h_0, .int v1, .int v2] [(h_0, oX6 h_0_of h_0_kept h_0_column h_0_size h_0_hidden h_0_cell h_0_home h_0_waste h_0_stock h_0_past h_0_start h_0_known h_0_sorted h_0_row h_0_best I_0), (h_0_of, eI cI 9 (I_0 1)), (h_0_kept, eI cI 9 (I_0 2)), (h_0_column, eJ cJ 5 (L_0 0)), (h_0_size, eI cI 5 (I_0 3)), (h_0_hidden, eI cI 5 (I_0 4)), (h_0_cell, eI cI 2 (I_0 5)), (h_0_home, eI cI 4 (I_0 6)), (h_0_waste, eI cI 8 (I_0 7)), (h_0_stock, eI cI 8 (I_0 8)), (h_0_past, eJ cJ 1616 (L_0 1)), (h_0_start, eJ cJ 8 (L_0 2)), (h_0_known, eJ cJ 3216 (L_0 3)), (h_0_sorted, eJ cJ 3216 (L_0 4)), (h_0_row, eI cI 16 (I_0 9)), (h_0_best, eJ cJ 8 (L_0 5))] [(h_0, oX6 h_0_of h_0_kept h_0_column h_0_size h_0_hidden h_0_cell h_0_home h_0_waste h_0_stock h_0_past h_0_start h_0_known h_0_sorted h_0_row h_0_best I_0), (h_0_of, eI cI 9 (I_0 1)), (h_0_kept, eI cI 9 (I_0 2)), (h_0_column, eJ cJ 5 (L_0 0)), (h_0_size, eI cI 5 (I_0 3)), (h_0_hidden, eI cI 5 (I_0 4)), (h_0_cell, eI cI 2 (I_0 5)), (h_0_home, eI cI 4 (I_0 6)), (h_0_waste, eI cI 8 (I_0 7)), (h_0_stock, eI cI 8 (I_0 8)), (h_0_past, eJ cJ 1616 (L_0 1)), (h_0_start, eJ cJ 8 (L_0 2)), (h_0_known, eJ cJ 3216 (L_0 3)), (h_0_sorted, eJ cJ 3216 (L_0 4)), (h_0_row, eI cI 16 (I_0 9)), (h_0_best, eJ cJ 8 (L_0 5))] rv := by
  refine CtZ.of (cc := cX6_fits) (maxL := 6) (by decide) rfl (Nat.le_of_ble_eq_true rfl) ?_
  intro p e s m args below meth c A H0 Q ls X hS hl kret
  have hCF := X.1
  obtain ⟨⟨hx, hb, hml, hown, hts⟩, hK, hA⟩ := X
  have hl : lv_has ls 6 [(0, .ref h_0), (1, .int v1), (2, .int v2)] := hl
  have q0 := hts (.fieldLink RX6 25 "PatienceryModel" "of" "[I") (List.mem_cons_of_mem _ mw_161)
  have inX6 : ∀ w ∈ u_ws RX6 TX6 32, w ∈ wtX6_fits := fun w h => List.mem_cons_of_mem _ (inlX6 w h)
  have B61 : ∀ (v1 : Int32) (v2 : Int32) (s0 : Int32) (H : Heap) (locs : List Loc) (ls : Array Slot), HS D A H0 [(h_0, oX6 h_0_of h_0_kept h_0_column h_0_size h_0_hidden h_0_cell h_0_home h_0_waste h_0_stock h_0_past h_0_start h_0_known h_0_sorted h_0_row h_0_best I_0), (h_0_of, eI cI 9 (I_0 1)), (h_0_kept, eI cI 9 (I_0 2)), (h_0_column, eJ cJ 5 (L_0 0)), (h_0_size, eI cI 5 (I_0 3)), (h_0_hidden, eI cI 5 (I_0 4)), (h_0_cell, eI cI 2 (I_0 5)), (h_0_home, eI cI 4 (I_0 6)), (h_0_waste, eI cI 8 (I_0 7)), (h_0_stock, eI cI 8 (I_0 8)), (h_0_past, eJ cJ 1616 (L_0 1)), (h_0_start, eJ cJ 8 (L_0 2)), (h_0_known, eJ cJ 3216 (L_0 3)), (h_0_sorted, eJ cJ 3216 (L_0 4)), (h_0_row, eI cI 16 (I_0 9)), (h_0_best, eJ cJ 8 (L_0 5))] H locs → lv_has ls 6 [(0, .ref h_0), (1, .int v1), (2, .int v2)] → F_X6_fits_b61 I_0 L_0  v1 v2 s0 = some rv → W p l e ({ frames := 1, cells := 0, slots := 0, locals := 21 } : Room) s m args below meth c H locs 0 0 Q (F0 m 61 ls [.int s0]) := by
    intro v1 v2 s0 H locs ls hS hl hF
    unfold F_X6_fits_b61 at hF
    refine lv_istore (lv' := [(5, .int s0), (0, .ref h_0), (1, .int v1), (2, .int v2)]) hx hb dX6_fits_61 hl (by decide) rfl (fun ls hl => ?_)
    refine lv_iload hx hb dX6_fits_63 (lv_at hl 0 rfl) ?_
    refine lv_if_eq (tgt := 87) hx hb dX6_fits_65 (by decide) (fun c_1 => ?_) (fun c_1 => ?_)
    · replace hF := ifp hF c_1
      refine lv_iconst (v := (nI 0)) hx hb dX6_fits_87 (by decide) ?_
      replace hF := zb_e hF
      obtain ⟨h01_2, hF⟩ := hF
      have e9_0 := Option.some.inj hF
      subst e9_0
      exact kret _ _ _ _ h01_2 hS dX6_fits_88
    · replace hF := ifn hF c_1
      refine lv_aload_n hx hb dX6_fits_68 rfl (lv_at hl 1 rfl) ?_
      refine lv_iload_n hx hb dX6_fits_69 rfl (lv_at hl 2 rfl) ?_
      replace hF := cal1_e hF
      obtain ⟨x3, hc4, hF⟩ := hF
      refine kV_i (As := [.int v1]) (rest := []) (wr := []) (w2 := [(h_0, oX6 h_0_of h_0_kept h_0_column h_0_size h_0_hidden h_0_cell h_0_home h_0_waste h_0_stock h_0_past h_0_start h_0_known h_0_sorted h_0_row h_0_best I_0), (h_0_of, eI cI 9 (I_0 1)), (h_0_kept, eI cI 9 (I_0 2)), (h_0_column, eJ cJ 5 (L_0 0)), (h_0_size, eI cI 5 (I_0 3)), (h_0_hidden, eI cI 5 (I_0 4)), (h_0_cell, eI cI 2 (I_0 5)), (h_0_home, eI cI 4 (I_0 6)), (h_0_waste, eI cI 8 (I_0 7)), (h_0_stock, eI cI 8 (I_0 8)), (h_0_past, eJ cJ 1616 (L_0 1)), (h_0_start, eJ cJ 8 (L_0 2)), (h_0_known, eJ cJ 3216 (L_0 3)), (h_0_sorted, eJ cJ 3216 (L_0 4)), (h_0_row, eI cI 16 (I_0 9)), (h_0_best, eJ cJ 8 (L_0 5))]) hCF hK (c_X6_rankOf l D cI cJ h_0 h_0_of h_0_kept h_0_column h_0_size h_0_hidden h_0_cell h_0_home h_0_waste h_0_stock h_0_past h_0_start h_0_known h_0_sorted h_0_row h_0_best I_0 L_0 v1 x3 hc4) (cwV 1 hts (TBL_V mw_473 mw_474 mw_475 mw_5 mw_476) rfl rfl rfl pmX6_rankOf ⟨Nat.le_of_ble_eq_true rfl, Nat.le_of_ble_eq_true rfl⟩) hS hA [0, 1, 2, 3, 4, 5, 6, 7, 8, 9, 10, 11, 12, 13, 14, 15] [] rfl rfl rfl rfl (by decide) rfl rfl rfl hl.1 rfl (Nat.le_of_ble_eq_true rfl) ⟨Nat.zero_le _, Nat.zero_le _⟩ dX6_fits_70 rfl (fun H locs hS => ?_)
      refine lv_aload_n hx hb dX6_fits_73 rfl (lv_at hl 1 rfl) ?_
      refine lv_iload_n hx hb dX6_fits_74 rfl (lv_at hl 3 rfl) ?_
      replace hF := cal1_e hF
      obtain ⟨x5, hc6, hF⟩ := hF
      refine kV_i (As := [.int v2]) (rest := [.int x3]) (wr := []) (w2 := [(h_0, oX6 h_0_of h_0_kept h_0_column h_0_size h_0_hidden h_0_cell h_0_home h_0_waste h_0_stock h_0_past h_0_start h_0_known h_0_sorted h_0_row h_0_best I_0), (h_0_of, eI cI 9 (I_0 1)), (h_0_kept, eI cI 9 (I_0 2)), (h_0_column, eJ cJ 5 (L_0 0)), (h_0_size, eI cI 5 (I_0 3)), (h_0_hidden, eI cI 5 (I_0 4)), (h_0_cell, eI cI 2 (I_0 5)), (h_0_home, eI cI 4 (I_0 6)), (h_0_waste, eI cI 8 (I_0 7)), (h_0_stock, eI cI 8 (I_0 8)), (h_0_past, eJ cJ 1616 (L_0 1)), (h_0_start, eJ cJ 8 (L_0 2)), (h_0_known, eJ cJ 3216 (L_0 3)), (h_0_sorted, eJ cJ 3216 (L_0 4)), (h_0_row, eI cI 16 (I_0 9)), (h_0_best, eJ cJ 8 (L_0 5))]) hCF hK (c_X6_rankOf l D cI cJ h_0 h_0_of h_0_kept h_0_column h_0_size h_0_hidden h_0_cell h_0_home h_0_waste h_0_stock h_0_past h_0_start h_0_known h_0_sorted h_0_row h_0_best I_0 L_0 v2 x5 hc6) (cwV 1 hts (TBL_V mw_473 mw_474 mw_475 mw_5 mw_476) rfl rfl rfl pmX6_rankOf ⟨Nat.le_of_ble_eq_true rfl, Nat.le_of_ble_eq_true rfl⟩) hS hA [0, 1, 2, 3, 4, 5, 6, 7, 8, 9, 10, 11, 12, 13, 14, 15] [] rfl rfl rfl rfl (by decide) rfl rfl rfl hl.1 rfl (Nat.le_of_ble_eq_true rfl) ⟨Nat.zero_le _, Nat.zero_le _⟩ dX6_fits_75 rfl (fun H locs hS => ?_)
      refine lv_iconst (v := (nI 1)) hx hb dX6_fits_78 (by decide) ?_
      refine lv_isub hx hb dX6_fits_79 ?_
      refine lv_icmp_ne (tgt := 87) hx hb dX6_fits_80 (by decide) (fun c_7 => ?_) (fun c_7 => ?_)
      · replace hF := ifn hF c_7
        refine lv_iconst (v := (nI 0)) hx hb dX6_fits_87 (by decide) ?_
        replace hF := zb_e hF
        obtain ⟨h01_8, hF⟩ := hF
        have e9_0 := Option.some.inj hF
        subst e9_0
        exact kret _ _ _ _ h01_8 hS dX6_fits_88
      · replace hF := ifp hF c_7
        refine lv_iconst (v := (nI 1)) hx hb dX6_fits_83 (by decide) ?_
        refine lv_goto (tgt := 88) hx hb dX6_fits_84 (by decide) ?_
        replace hF := zb_e hF
        obtain ⟨h01_9, hF⟩ := hF
        have e9_0 := Option.some.inj hF
        subst e9_0
        exact kret _ _ _ _ h01_9 hS dX6_fits_88
  unfold F_X6_fits at hF
  refine lv_aload_n hx hb dX6_fits_0 rfl (lv_at hl 0 rfl) ?_
  refine lv_iload_n hx hb dX6_fits_1 rfl (lv_at hl 1 rfl) ?_
  replace hF := cal1_e hF
  obtain ⟨x10, hc11, hF⟩ := hF
  refine kV_i (As := [.int v1]) (rest := []) (wr := []) (w2 := [(h_0, oX6 h_0_of h_0_kept h_0_column h_0_size h_0_hidden h_0_cell h_0_home h_0_waste h_0_stock h_0_past h_0_start h_0_known h_0_sorted h_0_row h_0_best I_0), (h_0_of, eI cI 9 (I_0 1)), (h_0_kept, eI cI 9 (I_0 2)), (h_0_column, eJ cJ 5 (L_0 0)), (h_0_size, eI cI 5 (I_0 3)), (h_0_hidden, eI cI 5 (I_0 4)), (h_0_cell, eI cI 2 (I_0 5)), (h_0_home, eI cI 4 (I_0 6)), (h_0_waste, eI cI 8 (I_0 7)), (h_0_stock, eI cI 8 (I_0 8)), (h_0_past, eJ cJ 1616 (L_0 1)), (h_0_start, eJ cJ 8 (L_0 2)), (h_0_known, eJ cJ 3216 (L_0 3)), (h_0_sorted, eJ cJ 3216 (L_0 4)), (h_0_row, eI cI 16 (I_0 9)), (h_0_best, eJ cJ 8 (L_0 5))]) hCF hK (c_X6_suitOf l D cI cJ h_0 h_0_of h_0_kept h_0_column h_0_size h_0_hidden h_0_cell h_0_home h_0_waste h_0_stock h_0_past h_0_start h_0_known h_0_sorted h_0_row h_0_best I_0 L_0 v1 x10 hc11) (cwV 1 hts (TBL_V mw_469 mw_470 mw_471 mw_5 mw_472) rfl rfl rfl pmX6_suitOf ⟨Nat.le_of_ble_eq_true rfl, Nat.le_of_ble_eq_true rfl⟩) hS hA [0, 1, 2, 3, 4, 5, 6, 7, 8, 9, 10, 11, 12, 13, 14, 15] [] rfl rfl rfl rfl (by decide) rfl rfl rfl hl.1 rfl (Nat.le_of_ble_eq_true rfl) ⟨Nat.zero_le _, Nat.zero_le _⟩ dX6_fits_2 rfl (fun H locs hS => ?_)
  refine lv_istore_n (lv' := [(3, .int x10), (0, .ref h_0), (1, .int v1), (2, .int v2)]) hx hb dX6_fits_5 rfl hl (by decide) rfl (fun ls hl => ?_)
  refine lv_aload_n hx hb dX6_fits_6 rfl (lv_at hl 1 rfl) ?_
  refine lv_iload_n hx hb dX6_fits_7 rfl (lv_at hl 3 rfl) ?_
  replace hF := cal1_e hF
  obtain ⟨x12, hc13, hF⟩ := hF
  refine kV_i (As := [.int v2]) (rest := []) (wr := []) (w2 := [(h_0, oX6 h_0_of h_0_kept h_0_column h_0_size h_0_hidden h_0_cell h_0_home h_0_waste h_0_stock h_0_past h_0_start h_0_known h_0_sorted h_0_row h_0_best I_0), (h_0_of, eI cI 9 (I_0 1)), (h_0_kept, eI cI 9 (I_0 2)), (h_0_column, eJ cJ 5 (L_0 0)), (h_0_size, eI cI 5 (I_0 3)), (h_0_hidden, eI cI 5 (I_0 4)), (h_0_cell, eI cI 2 (I_0 5)), (h_0_home, eI cI 4 (I_0 6)), (h_0_waste, eI cI 8 (I_0 7)), (h_0_stock, eI cI 8 (I_0 8)), (h_0_past, eJ cJ 1616 (L_0 1)), (h_0_start, eJ cJ 8 (L_0 2)), (h_0_known, eJ cJ 3216 (L_0 3)), (h_0_sorted, eJ cJ 3216 (L_0 4)), (h_0_row, eI cI 16 (I_0 9)), (h_0_best, eJ cJ 8 (L_0 5))]) hCF hK (c_X6_suitOf l D cI cJ h_0 h_0_of h_0_kept h_0_column h_0_size h_0_hidden h_0_cell h_0_home h_0_waste h_0_stock h_0_past h_0_start h_0_known h_0_sorted h_0_row h_0_best I_0 L_0 v2 x12 hc13) (cwV 1 hts (TBL_V mw_469 mw_470 mw_471 mw_5 mw_472) rfl rfl rfl pmX6_suitOf ⟨Nat.le_of_ble_eq_true rfl, Nat.le_of_ble_eq_true rfl⟩) hS hA [0, 1, 2, 3, 4, 5, 6, 7, 8, 9, 10, 11, 12, 13, 14, 15] [] rfl rfl rfl rfl (by decide) rfl rfl rfl hl.1 rfl (Nat.le_of_ble_eq_true rfl) ⟨Nat.zero_le _, Nat.zero_le _⟩ dX6_fits_8 rfl (fun H locs hS => ?_)
  refine lv_istore (lv' := [(4, .int x12), (3, .int x10), (0, .ref h_0), (1, .int v1), (2, .int v2)]) hx hb dX6_fits_11 hl (by decide) rfl (fun ls hl => ?_)
  refine lv_aload_n hx hb dX6_fits_13 rfl (lv_at hl 2 rfl) ?_
  refine r_get hx hb hts inX6 hown hK hS 0 10 rfl rfl (by decide) q0 rfl dX6_fits_14 ?_
  refine lv_iconst (v := (nI 4)) hx hb dX6_fits_17 (by decide) ?_
  replace hF := rdA_e hF
  obtain ⟨hi15, x14, ex14, hF⟩ := hF
  refine r_iald hx hb hK hS 1 rfl rfl hi15 dX6_fits_18 ex14 ?_
  refine lv_if_ne (tgt := 36) hx hb dX6_fits_19 (by decide) (fun c_16 => ?_) (fun c_16 => ?_)
  · replace hF := ifn hF c_16
    refine lv_aload_n hx hb dX6_fits_36 rfl (lv_at hl 2 rfl) ?_
    refine r_get hx hb hts inX6 hown hK hS 0 10 rfl rfl (by decide) q0 rfl dX6_fits_37 ?_
    refine lv_iconst (v := (nI 4)) hx hb dX6_fits_40 (by decide) ?_
    replace hF := rdA_e hF
    obtain ⟨hi18, x17, ex17, hF⟩ := hF
    refine r_iald hx hb hK hS 1 rfl rfl hi18 dX6_fits_41 ex17 ?_
    refine lv_iconst (v := (nI 2)) hx hb dX6_fits_42 (by decide) ?_
    refine lv_icmp_eq (tgt := 56) hx hb dX6_fits_43 (by decide) (fun c_19 => ?_) (fun c_19 => ?_)
    · replace hF := ifp hF c_19
      refine lv_iconst (v := (nI 1)) hx hb dX6_fits_56 (by decide) ?_
      refine lv_goto (tgt := 61) hx hb dX6_fits_57 (by decide) ?_
      exact B61 v1 v2 (nI 1) _ _ _ hS (lv_sub hl [2, 3, 4] rfl) hF
    · replace hF := ifn hF c_19
      refine lv_iload_n hx hb dX6_fits_46 rfl (lv_at hl 1 rfl) ?_
      refine lv_iconst (v := (nI 2)) hx hb dX6_fits_47 (by decide) ?_
      replace hF := nz_e hF
      obtain ⟨hne20, hF⟩ := hF
      refine lv_irem hx hb dX6_fits_48 hne20 ?_
      refine lv_iload hx hb dX6_fits_49 (lv_at hl 0 rfl) ?_
      refine lv_iconst (v := (nI 2)) hx hb dX6_fits_51 (by decide) ?_
      replace hF := nz_e hF
      obtain ⟨hne21, hF⟩ := hF
      refine lv_irem hx hb dX6_fits_52 hne21 ?_
      refine lv_icmp_eq (tgt := 60) hx hb dX6_fits_53 (by decide) (fun c_22 => ?_) (fun c_22 => ?_)
      · replace hF := ifp hF c_22
        refine lv_iconst (v := (nI 0)) hx hb dX6_fits_60 (by decide) ?_
        exact B61 v1 v2 (nI 0) _ _ _ hS (lv_sub hl [2, 3, 4] rfl) hF
      · replace hF := ifn hF c_22
        refine lv_iconst (v := (nI 1)) hx hb dX6_fits_56 (by decide) ?_
        refine lv_goto (tgt := 61) hx hb dX6_fits_57 (by decide) ?_
        exact B61 v1 v2 (nI 1) _ _ _ hS (lv_sub hl [2, 3, 4] rfl) hF
  · replace hF := ifp hF c_16
    refine lv_iload_n hx hb dX6_fits_22 rfl (lv_at hl 1 rfl) ?_
    refine lv_iload hx hb dX6_fits_23 (lv_at hl 0 rfl) ?_
    refine lv_icmp_ne (tgt := 32) hx hb dX6_fits_25 (by decide) (fun c_23 => ?_) (fun c_23 => ?_)
    · replace hF := ifn hF c_23
      refine lv_iconst (v := (nI 0)) hx hb dX6_fits_32 (by decide) ?_
      refine lv_goto (tgt := 61) hx hb dX6_fits_33 (by decide) ?_
      exact B61 v1 v2 (nI 0) _ _ _ hS (lv_sub hl [2, 3, 4] rfl) hF
    · replace hF := ifp hF c_23
      refine lv_iconst (v := (nI 1)) hx hb dX6_fits_28 (by decide) ?_
      refine lv_goto (tgt := 61) hx hb dX6_fits_29 (by decide) ?_
      exact B61 v1 v2 (nI 1) _ _ _ hS (lv_sub hl [2, 3, 4] rfl) hF
set_option maxHeartbeats 4000000 in
set_option maxRecDepth 100000 in
theorem c_X6_lastOf (l : Launch) (D : va_G) (cI cJ : ClassId) (h_0 h_0_of h_0_kept h_0_column h_0_size h_0_hidden h_0_cell h_0_home h_0_waste h_0_stock h_0_past h_0_start h_0_known h_0_sorted h_0_row h_0_best : Nat) (I_0 : Nat → Nat → Int32) (L_0 : Nat → Nat → Int64) (v1 : Int32) (rv : Int32) (hF : F_X6_lastOf I_0 L_0 v1 = some rv) : CtI l D [(cI, .int), (cJ, .long)] yX6_lastOf wtX6_lastOf ({ frames := 1, cells := 0, slots := 0, locals := 22 } : Room) [.ref h_0, .int v1] [(h_0, oX6 h_0_of h_0_kept h_0_column h_0_size h_0_hidden h_0_cell h_0_home h_0_waste h_0_stock h_0_past h_0_start h_0_known h_0_sorted h_0_row h_0_best I_0), (h_0_of, eI cI 9 (I_0 1)), (h_0_kept, eI cI 9 (I_0 2)), (h_0_column, eJ cJ 5 (L_0 0)), (h_0_size, eI cI 5 (I_0 3)), (h_0_hidden, eI cI 5 (I_0 4)), (h_0_cell, eI cI 2 (I_0 5)), (h_0_home, eI cI 4 (I_0 6)), (h_0_waste, eI cI 8 (I_0 7)), (h_0_stock, eI cI 8 (I_0 8)), (h_0_past, eJ cJ 1616 (L_0 1)), (h_0_start, eJ cJ 8 (L_0 2)), (h_0_known, eJ cJ 3216 (L_0 3)), (h_0_sorted, eJ cJ 3216 (L_0 4)), (h_0_row, eI cI 16 (I_0 9)), (h_0_best, eJ cJ 8 (L_0 5))] [(h_0, oX6 h_0_of h_0_kept h_0_column h_0_size h_0_hidden h_0_cell h_0_home h_0_waste h_0_stock h_0_past h_0_start h_0_known h_0_sorted h_0_row h_0_best I_0), (h_0_of, eI cI 9 (I_0 1)), (h_0_kept, eI cI 9 (I_0 2)), (h_0_column, eJ cJ 5 (L_0 0)), (h_0_size, eI cI 5 (I_0 3)), (h_0_hidden, eI cI 5 (I_0 4)), (h_0_cell, eI cI 2 (I_0 5)), (h_0_home, eI cI 4 (I_0 6)), (h_0_waste, eI cI 8 (I_0 7)), (h_0_stock, eI cI 8 (I_0 8)), (h_0_past, eJ cJ 1616 (L_0 1)), (h_0_start, eJ cJ 8 (L_0 2)), (h_0_known, eJ cJ 3216 (L_0 3)), (h_0_sorted, eJ cJ 3216 (L_0 4)), (h_0_row, eI cI 16 (I_0 9)), (h_0_best, eJ cJ 8 (L_0 5))] rv := by
  refine CtI.of (cc := cX6_lastOf) (maxL := 2) (by decide) rfl (Nat.le_of_ble_eq_true rfl) ?_
  intro p e s m args below meth c A H0 Q ls X hS hl kret
  have hCF := X.1
  obtain ⟨⟨hx, hb, hml, hown, hts⟩, hK, hA⟩ := X
  have hl : lv_has ls 2 [(0, .ref h_0), (1, .int v1)] := hl
  have q0 := hts (.fieldLink RX6 117 "PatienceryModel" "wasted" "I") (List.mem_cons_of_mem _ mw_195)
  have inX6 : ∀ w ∈ u_ws RX6 TX6 32, w ∈ wtX6_lastOf := fun w h => List.mem_cons_of_mem _ (inlX6 w h)
  have q2 := hts (.fieldLink RX6 48 "PatienceryModel" "waste" "[I") (List.mem_cons_of_mem _ mw_168)
  have q3 := hts (.fieldLink RX6 42 "PatienceryModel" "cell" "[I") (List.mem_cons_of_mem _ mw_166)
  have q4 := hts (.fieldLink RX6 36 "PatienceryModel" "size" "[I") (List.mem_cons_of_mem _ mw_164)
  unfold F_X6_lastOf at hF
  refine lv_iload_n hx hb dX6_lastOf_0 rfl (lv_at hl 1 rfl) ?_
  refine lv_iconst (v := (nI 5)) hx hb dX6_lastOf_1 (by decide) ?_
  refine lv_icmp_ge (tgt := 32) hx hb dX6_lastOf_2 (by decide) (fun c_1 => ?_) (fun c_1 => ?_)
  · replace hF := ifp hF c_1
    refine lv_iload_n hx hb dX6_lastOf_32 rfl (lv_at hl 1 rfl) ?_
    refine lv_bipush (v := (nI 7)) hx hb dX6_lastOf_33 (by decide) ?_
    refine lv_icmp_ge (tgt := 49) hx hb dX6_lastOf_35 (by decide) (fun c_2 => ?_) (fun c_2 => ?_)
    · replace hF := ifp hF c_2
      refine lv_iload_n hx hb dX6_lastOf_49 rfl (lv_at hl 1 rfl) ?_
      refine lv_bipush (v := (nI 7)) hx hb dX6_lastOf_50 (by decide) ?_
      refine lv_icmp_ne (tgt := 76) hx hb dX6_lastOf_52 (by decide) (fun c_3 => ?_) (fun c_3 => ?_)
      · replace hF := ifn hF c_3
        refine lv_iconst (v := (-1)) hx hb dX6_lastOf_76 (by decide) ?_
        have e9_0 := Option.some.inj hF
        subst e9_0
        exact kret _ _ _ _ hS dX6_lastOf_77
      · replace hF := ifp hF c_3
        refine lv_aload_n hx hb dX6_lastOf_55 rfl (lv_at hl 0 rfl) ?_
        refine r_get hx hb hts inX6 hown hK hS 0 21 rfl rfl (by decide) q0 rfl dX6_lastOf_56 ?_
        refine lv_if_le (tgt := 76) hx hb dX6_lastOf_59 (by decide) (fun c_4 => ?_) (fun c_4 => ?_)
        · replace hF := ifp hF c_4
          refine lv_iconst (v := (-1)) hx hb dX6_lastOf_76 (by decide) ?_
          have e9_0 := Option.some.inj hF
          subst e9_0
          exact kret _ _ _ _ hS dX6_lastOf_77
        · replace hF := ifn hF c_4
          refine lv_aload_n hx hb dX6_lastOf_62 rfl (lv_at hl 0 rfl) ?_
          refine r_get hx hb hts inX6 hown hK hS 0 20 rfl rfl (by decide) q2 rfl dX6_lastOf_63 ?_
          refine lv_aload_n hx hb dX6_lastOf_66 rfl (lv_at hl 0 rfl) ?_
          refine r_get hx hb hts inX6 hown hK hS 0 21 rfl rfl (by decide) q0 rfl dX6_lastOf_67 ?_
          refine lv_iconst (v := (nI 1)) hx hb dX6_lastOf_70 (by decide) ?_
          refine lv_isub hx hb dX6_lastOf_71 ?_
          replace hF := rdA_e hF
          obtain ⟨hi6, x5, ex5, hF⟩ := hF
          refine r_iald hx hb hK hS 8 rfl rfl hi6 dX6_lastOf_72 ex5 ?_
          refine lv_goto (tgt := 77) hx hb dX6_lastOf_73 (by decide) ?_
          have e9_0 := Option.some.inj hF
          subst e9_0
          exact kret _ _ _ _ hS dX6_lastOf_77
    · replace hF := ifn hF c_2
      refine lv_aload_n hx hb dX6_lastOf_38 rfl (lv_at hl 0 rfl) ?_
      refine r_get hx hb hts inX6 hown hK hS 0 18 rfl rfl (by decide) q3 rfl dX6_lastOf_39 ?_
      refine lv_iload_n hx hb dX6_lastOf_42 rfl (lv_at hl 1 rfl) ?_
      refine lv_iconst (v := (nI 5)) hx hb dX6_lastOf_43 (by decide) ?_
      refine lv_isub hx hb dX6_lastOf_44 ?_
      replace hF := rdA_e hF
      obtain ⟨hi8, x7, ex7, hF⟩ := hF
      refine r_iald hx hb hK hS 6 rfl rfl hi8 dX6_lastOf_45 ex7 ?_
      refine lv_goto (tgt := 77) hx hb dX6_lastOf_46 (by decide) ?_
      have e9_0 := Option.some.inj hF
      subst e9_0
      exact kret _ _ _ _ hS dX6_lastOf_77
  · replace hF := ifn hF c_1
    refine lv_aload_n hx hb dX6_lastOf_5 rfl (lv_at hl 0 rfl) ?_
    refine r_get hx hb hts inX6 hown hK hS 0 16 rfl rfl (by decide) q4 rfl dX6_lastOf_6 ?_
    refine lv_iload_n hx hb dX6_lastOf_9 rfl (lv_at hl 1 rfl) ?_
    replace hF := rdA_e hF
    obtain ⟨hi10, x9, ex9, hF⟩ := hF
    refine r_iald hx hb hK hS 4 rfl rfl hi10 dX6_lastOf_10 ex9 ?_
    refine lv_if_le (tgt := 30) hx hb dX6_lastOf_11 (by decide) (fun c_11 => ?_) (fun c_11 => ?_)
    · replace hF := ifp hF c_11
      refine lv_iconst (v := (-1)) hx hb dX6_lastOf_30 (by decide) ?_
      have e9_0 := Option.some.inj hF
      subst e9_0
      exact kret _ _ _ _ hS dX6_lastOf_31
    · replace hF := ifn hF c_11
      refine lv_aload_n hx hb dX6_lastOf_14 rfl (lv_at hl 0 rfl) ?_
      refine lv_iload_n hx hb dX6_lastOf_15 rfl (lv_at hl 1 rfl) ?_
      refine lv_aload_n hx hb dX6_lastOf_16 rfl (lv_at hl 0 rfl) ?_
      refine r_get hx hb hts inX6 hown hK hS 0 16 rfl rfl (by decide) q4 rfl dX6_lastOf_17 ?_
      refine lv_iload_n hx hb dX6_lastOf_20 rfl (lv_at hl 1 rfl) ?_
      replace hF := rdA_e hF
      obtain ⟨hi13, x12, ex12, hF⟩ := hF
      refine r_iald hx hb hK hS 4 rfl rfl hi13 dX6_lastOf_21 ex12 ?_
      refine lv_iconst (v := (nI 1)) hx hb dX6_lastOf_22 (by decide) ?_
      refine lv_isub hx hb dX6_lastOf_23 ?_
      replace hF := cal1_e hF
      obtain ⟨x14, hc15, hF⟩ := hF
      refine kV_i (As := [.int v1, .int (x12 - (nI 1))]) (rest := []) (wr := []) (w2 := [(h_0, oX6 h_0_of h_0_kept h_0_column h_0_size h_0_hidden h_0_cell h_0_home h_0_waste h_0_stock h_0_past h_0_start h_0_known h_0_sorted h_0_row h_0_best I_0), (h_0_of, eI cI 9 (I_0 1)), (h_0_kept, eI cI 9 (I_0 2)), (h_0_column, eJ cJ 5 (L_0 0)), (h_0_size, eI cI 5 (I_0 3)), (h_0_hidden, eI cI 5 (I_0 4)), (h_0_cell, eI cI 2 (I_0 5)), (h_0_home, eI cI 4 (I_0 6)), (h_0_waste, eI cI 8 (I_0 7)), (h_0_stock, eI cI 8 (I_0 8)), (h_0_past, eJ cJ 1616 (L_0 1)), (h_0_start, eJ cJ 8 (L_0 2)), (h_0_known, eJ cJ 3216 (L_0 3)), (h_0_sorted, eJ cJ 3216 (L_0 4)), (h_0_row, eI cI 16 (I_0 9)), (h_0_best, eJ cJ 8 (L_0 5))]) hCF hK (c_X6_cardAt l D cI cJ h_0 h_0_of h_0_kept h_0_column h_0_size h_0_hidden h_0_cell h_0_home h_0_waste h_0_stock h_0_past h_0_start h_0_known h_0_sorted h_0_row h_0_best I_0 L_0 v1 (x12 - (nI 1)) x14 hc15) (cwV 2 hts (TBL_V mw_461 mw_462 mw_463 mw_5 mw_464) rfl rfl rfl pmX6_cardAt ⟨Nat.le_of_ble_eq_true rfl, Nat.le_of_ble_eq_true rfl⟩) hS hA [0, 1, 2, 3, 4, 5, 6, 7, 8, 9, 10, 11, 12, 13, 14, 15] [] rfl rfl rfl rfl (by decide) rfl rfl rfl hl.1 rfl (Nat.le_of_ble_eq_true rfl) ⟨Nat.zero_le _, Nat.zero_le _⟩ dX6_lastOf_24 rfl (fun H locs hS => ?_)
      refine lv_goto (tgt := 31) hx hb dX6_lastOf_27 (by decide) ?_
      have e9_0 := Option.some.inj hF
      subst e9_0
      exact kret _ _ _ _ hS dX6_lastOf_31
set_option maxHeartbeats 4000000 in
set_option maxRecDepth 100000 in
theorem c_X6_comesTo (l : Launch) (D : va_G) (cI cJ : ClassId) (h_0 h_0_of h_0_kept h_0_column h_0_size h_0_hidden h_0_cell h_0_home h_0_waste h_0_stock h_0_past h_0_start h_0_known h_0_sorted h_0_row h_0_best : Nat) (I_0 : Nat → Nat → Int32) (L_0 : Nat → Nat → Int64) (v1 : Int32) (v2 : Int32) (rv : Int32) (hF : F_X6_comesTo I_0 L_0 v1 v2 = some rv) : CtI l D [(cI, .int), (cJ, .long)] yX6_comesTo wtX6_comesTo ({ frames := 2, cells := 0, slots := 0, locals := 46 } : Room) [.ref h_0, .int v1, .int v2] [(h_0, oX6 h_0_of h_0_kept h_0_column h_0_size h_0_hidden h_0_cell h_0_home h_0_waste h_0_stock h_0_past h_0_start h_0_known h_0_sorted h_0_row h_0_best I_0), (h_0_of, eI cI 9 (I_0 1)), (h_0_kept, eI cI 9 (I_0 2)), (h_0_column, eJ cJ 5 (L_0 0)), (h_0_size, eI cI 5 (I_0 3)), (h_0_hidden, eI cI 5 (I_0 4)), (h_0_cell, eI cI 2 (I_0 5)), (h_0_home, eI cI 4 (I_0 6)), (h_0_waste, eI cI 8 (I_0 7)), (h_0_stock, eI cI 8 (I_0 8)), (h_0_past, eJ cJ 1616 (L_0 1)), (h_0_start, eJ cJ 8 (L_0 2)), (h_0_known, eJ cJ 3216 (L_0 3)), (h_0_sorted, eJ cJ 3216 (L_0 4)), (h_0_row, eI cI 16 (I_0 9)), (h_0_best, eJ cJ 8 (L_0 5))] [(h_0, oX6 h_0_of h_0_kept h_0_column h_0_size h_0_hidden h_0_cell h_0_home h_0_waste h_0_stock h_0_past h_0_start h_0_known h_0_sorted h_0_row h_0_best I_0), (h_0_of, eI cI 9 (I_0 1)), (h_0_kept, eI cI 9 (I_0 2)), (h_0_column, eJ cJ 5 (L_0 0)), (h_0_size, eI cI 5 (I_0 3)), (h_0_hidden, eI cI 5 (I_0 4)), (h_0_cell, eI cI 2 (I_0 5)), (h_0_home, eI cI 4 (I_0 6)), (h_0_waste, eI cI 8 (I_0 7)), (h_0_stock, eI cI 8 (I_0 8)), (h_0_past, eJ cJ 1616 (L_0 1)), (h_0_start, eJ cJ 8 (L_0 2)), (h_0_known, eJ cJ 3216 (L_0 3)), (h_0_sorted, eJ cJ 3216 (L_0 4)), (h_0_row, eI cI 16 (I_0 9)), (h_0_best, eJ cJ 8 (L_0 5))] rv := by
  refine CtZ.of (cc := cX6_comesTo) (maxL := 3) (by decide) rfl (Nat.le_of_ble_eq_true rfl) ?_
  intro p e s m args below meth c A H0 Q ls X hS hl kret
  have hCF := X.1
  obtain ⟨⟨hx, hb, hml, hown, hts⟩, hK, hA⟩ := X
  have hl : lv_has ls 3 [(0, .ref h_0), (1, .int v1), (2, .int v2)] := hl
  have q0 := hts (.fieldLink RX6 25 "PatienceryModel" "of" "[I") (List.mem_cons_of_mem _ mw_161)
  have inX6 : ∀ w ∈ u_ws RX6 TX6 32, w ∈ wtX6_comesTo := fun w h => List.mem_cons_of_mem _ (inlX6 w h)
  have q2 := hts (.fieldLink RX6 36 "PatienceryModel" "size" "[I") (List.mem_cons_of_mem _ mw_164)
  unfold F_X6_comesTo at hF
  refine lv_iload_n hx hb dX6_comesTo_0 rfl (lv_at hl 2 rfl) ?_
  refine lv_aload_n hx hb dX6_comesTo_1 rfl (lv_at hl 0 rfl) ?_
  refine r_get hx hb hts inX6 hown hK hS 0 10 rfl rfl (by decide) q0 rfl dX6_comesTo_2 ?_
  refine lv_iconst (v := (nI 2)) hx hb dX6_comesTo_5 (by decide) ?_
  replace hF := rdA_e hF
  obtain ⟨hi2, x1, ex1, hF⟩ := hF
  refine r_iald hx hb hK hS 1 rfl rfl hi2 dX6_comesTo_6 ex1 ?_
  refine lv_icmp_lt (tgt := 12) hx hb dX6_comesTo_7 (by decide) (fun c_3 => ?_) (fun c_3 => ?_)
  · replace hF := ifp hF c_3
    refine lv_aload_n hx hb dX6_comesTo_12 rfl (lv_at hl 0 rfl) ?_
    refine r_get hx hb hts inX6 hown hK hS 0 16 rfl rfl (by decide) q2 rfl dX6_comesTo_13 ?_
    refine lv_iload_n hx hb dX6_comesTo_16 rfl (lv_at hl 2 rfl) ?_
    replace hF := rdA_e hF
    obtain ⟨hi5, x4, ex4, hF⟩ := hF
    refine r_iald hx hb hK hS 4 rfl rfl hi5 dX6_comesTo_17 ex4 ?_
    refine lv_if_le (tgt := 40) hx hb dX6_comesTo_18 (by decide) (fun c_6 => ?_) (fun c_6 => ?_)
    · replace hF := ifp hF c_6
      refine lv_aload_n hx hb dX6_comesTo_40 rfl (lv_at hl 0 rfl) ?_
      refine r_get hx hb hts inX6 hown hK hS 0 10 rfl rfl (by decide) q0 rfl dX6_comesTo_41 ?_
      refine lv_iconst (v := (nI 5)) hx hb dX6_comesTo_44 (by decide) ?_
      replace hF := rdA_e hF
      obtain ⟨hi8, x7, ex7, hF⟩ := hF
      refine r_iald hx hb hK hS 1 rfl rfl hi8 dX6_comesTo_45 ex7 ?_
      refine lv_if_eq (tgt := 73) hx hb dX6_comesTo_46 (by decide) (fun c_9 => ?_) (fun c_9 => ?_)
      · replace hF := ifp hF c_9
        refine lv_iconst (v := (nI 1)) hx hb dX6_comesTo_73 (by decide) ?_
        refine lv_goto (tgt := 78) hx hb dX6_comesTo_74 (by decide) ?_
        replace hF := zb_e hF
        obtain ⟨h01_10, hF⟩ := hF
        have e9_0 := Option.some.inj hF
        subst e9_0
        exact kret _ _ _ _ h01_10 hS dX6_comesTo_78
      · replace hF := ifn hF c_9
        refine lv_aload_n hx hb dX6_comesTo_49 rfl (lv_at hl 0 rfl) ?_
        refine r_get hx hb hts inX6 hown hK hS 0 10 rfl rfl (by decide) q0 rfl dX6_comesTo_50 ?_
        refine lv_iconst (v := (nI 5)) hx hb dX6_comesTo_53 (by decide) ?_
        replace hF := rdA_e hF
        obtain ⟨hi12, x11, ex11, hF⟩ := hF
        refine r_iald hx hb hK hS 1 rfl rfl hi12 dX6_comesTo_54 ex11 ?_
        refine lv_iconst (v := (nI 1)) hx hb dX6_comesTo_55 (by decide) ?_
        refine lv_icmp_ne (tgt := 77) hx hb dX6_comesTo_56 (by decide) (fun c_13 => ?_) (fun c_13 => ?_)
        · replace hF := ifn hF c_13
          refine lv_iconst (v := (nI 0)) hx hb dX6_comesTo_77 (by decide) ?_
          replace hF := zb_e hF
          obtain ⟨h01_14, hF⟩ := hF
          have e9_0 := Option.some.inj hF
          subst e9_0
          exact kret _ _ _ _ h01_14 hS dX6_comesTo_78
        · replace hF := ifp hF c_13
          refine lv_aload_n hx hb dX6_comesTo_59 rfl (lv_at hl 0 rfl) ?_
          refine lv_iload_n hx hb dX6_comesTo_60 rfl (lv_at hl 1 rfl) ?_
          replace hF := cal1_e hF
          obtain ⟨x15, hc16, hF⟩ := hF
          refine kV_i (As := [.int v1]) (rest := []) (wr := []) (w2 := [(h_0, oX6 h_0_of h_0_kept h_0_column h_0_size h_0_hidden h_0_cell h_0_home h_0_waste h_0_stock h_0_past h_0_start h_0_known h_0_sorted h_0_row h_0_best I_0), (h_0_of, eI cI 9 (I_0 1)), (h_0_kept, eI cI 9 (I_0 2)), (h_0_column, eJ cJ 5 (L_0 0)), (h_0_size, eI cI 5 (I_0 3)), (h_0_hidden, eI cI 5 (I_0 4)), (h_0_cell, eI cI 2 (I_0 5)), (h_0_home, eI cI 4 (I_0 6)), (h_0_waste, eI cI 8 (I_0 7)), (h_0_stock, eI cI 8 (I_0 8)), (h_0_past, eJ cJ 1616 (L_0 1)), (h_0_start, eJ cJ 8 (L_0 2)), (h_0_known, eJ cJ 3216 (L_0 3)), (h_0_sorted, eJ cJ 3216 (L_0 4)), (h_0_row, eI cI 16 (I_0 9)), (h_0_best, eJ cJ 8 (L_0 5))]) hCF hK (c_X6_rankOf l D cI cJ h_0 h_0_of h_0_kept h_0_column h_0_size h_0_hidden h_0_cell h_0_home h_0_waste h_0_stock h_0_past h_0_start h_0_known h_0_sorted h_0_row h_0_best I_0 L_0 v1 x15 hc16) (cwV 1 hts (TBL_V mw_473 mw_474 mw_475 mw_5 mw_476) rfl rfl rfl pmX6_rankOf ⟨Nat.le_of_ble_eq_true rfl, Nat.le_of_ble_eq_true rfl⟩) hS hA [0, 1, 2, 3, 4, 5, 6, 7, 8, 9, 10, 11, 12, 13, 14, 15] [] rfl rfl rfl rfl (by decide) rfl rfl rfl hl.1 rfl (Nat.le_of_ble_eq_true rfl) ⟨Nat.zero_le _, Nat.zero_le _⟩ dX6_comesTo_61 rfl (fun H locs hS => ?_)
          refine lv_aload_n hx hb dX6_comesTo_64 rfl (lv_at hl 0 rfl) ?_
          refine r_get hx hb hts inX6 hown hK hS 0 10 rfl rfl (by decide) q0 rfl dX6_comesTo_65 ?_
          refine lv_iconst (v := (nI 1)) hx hb dX6_comesTo_68 (by decide) ?_
          replace hF := rdA_e hF
          obtain ⟨hi18, x17, ex17, hF⟩ := hF
          refine r_iald hx hb hK hS 1 rfl rfl hi18 dX6_comesTo_69 ex17 ?_
          refine lv_icmp_ne (tgt := 77) hx hb dX6_comesTo_70 (by decide) (fun c_19 => ?_) (fun c_19 => ?_)
          · replace hF := ifn hF c_19
            refine lv_iconst (v := (nI 0)) hx hb dX6_comesTo_77 (by decide) ?_
            replace hF := zb_e hF
            obtain ⟨h01_20, hF⟩ := hF
            have e9_0 := Option.some.inj hF
            subst e9_0
            exact kret _ _ _ _ h01_20 hS dX6_comesTo_78
          · replace hF := ifp hF c_19
            refine lv_iconst (v := (nI 1)) hx hb dX6_comesTo_73 (by decide) ?_
            refine lv_goto (tgt := 78) hx hb dX6_comesTo_74 (by decide) ?_
            replace hF := zb_e hF
            obtain ⟨h01_21, hF⟩ := hF
            have e9_0 := Option.some.inj hF
            subst e9_0
            exact kret _ _ _ _ h01_21 hS dX6_comesTo_78
    · replace hF := ifn hF c_6
      refine lv_aload_n hx hb dX6_comesTo_21 rfl (lv_at hl 0 rfl) ?_
      refine lv_iload_n hx hb dX6_comesTo_22 rfl (lv_at hl 1 rfl) ?_
      refine lv_aload_n hx hb dX6_comesTo_23 rfl (lv_at hl 0 rfl) ?_
      refine lv_iload_n hx hb dX6_comesTo_24 rfl (lv_at hl 2 rfl) ?_
      refine lv_aload_n hx hb dX6_comesTo_25 rfl (lv_at hl 0 rfl) ?_
      refine r_get hx hb hts inX6 hown hK hS 0 16 rfl rfl (by decide) q2 rfl dX6_comesTo_26 ?_
      refine lv_iload_n hx hb dX6_comesTo_29 rfl (lv_at hl 2 rfl) ?_
      replace hF := rdA_e hF
      obtain ⟨hi23, x22, ex22, hF⟩ := hF
      refine r_iald hx hb hK hS 4 rfl rfl hi23 dX6_comesTo_30 ex22 ?_
      refine lv_iconst (v := (nI 1)) hx hb dX6_comesTo_31 (by decide) ?_
      refine lv_isub hx hb dX6_comesTo_32 ?_
      replace hF := cal1_e hF
      obtain ⟨x24, hc25, hF⟩ := hF
      refine kV_i (As := [.int v2, .int (x22 - (nI 1))]) (rest := [.int v1, .ref h_0]) (wr := []) (w2 := [(h_0, oX6 h_0_of h_0_kept h_0_column h_0_size h_0_hidden h_0_cell h_0_home h_0_waste h_0_stock h_0_past h_0_start h_0_known h_0_sorted h_0_row h_0_best I_0), (h_0_of, eI cI 9 (I_0 1)), (h_0_kept, eI cI 9 (I_0 2)), (h_0_column, eJ cJ 5 (L_0 0)), (h_0_size, eI cI 5 (I_0 3)), (h_0_hidden, eI cI 5 (I_0 4)), (h_0_cell, eI cI 2 (I_0 5)), (h_0_home, eI cI 4 (I_0 6)), (h_0_waste, eI cI 8 (I_0 7)), (h_0_stock, eI cI 8 (I_0 8)), (h_0_past, eJ cJ 1616 (L_0 1)), (h_0_start, eJ cJ 8 (L_0 2)), (h_0_known, eJ cJ 3216 (L_0 3)), (h_0_sorted, eJ cJ 3216 (L_0 4)), (h_0_row, eI cI 16 (I_0 9)), (h_0_best, eJ cJ 8 (L_0 5))]) hCF hK (c_X6_cardAt l D cI cJ h_0 h_0_of h_0_kept h_0_column h_0_size h_0_hidden h_0_cell h_0_home h_0_waste h_0_stock h_0_past h_0_start h_0_known h_0_sorted h_0_row h_0_best I_0 L_0 v2 (x22 - (nI 1)) x24 hc25) (cwV 2 hts (TBL_V mw_461 mw_462 mw_463 mw_5 mw_464) rfl rfl rfl pmX6_cardAt ⟨Nat.le_of_ble_eq_true rfl, Nat.le_of_ble_eq_true rfl⟩) hS hA [0, 1, 2, 3, 4, 5, 6, 7, 8, 9, 10, 11, 12, 13, 14, 15] [] rfl rfl rfl rfl (by decide) rfl rfl rfl hl.1 rfl (Nat.le_of_ble_eq_true rfl) ⟨Nat.zero_le _, Nat.zero_le _⟩ dX6_comesTo_33 rfl (fun H locs hS => ?_)
      replace hF := cal1_e hF
      obtain ⟨x26, hc27, hF⟩ := hF
      refine kV_i (As := [.int v1, .int x24]) (rest := []) (wr := []) (w2 := [(h_0, oX6 h_0_of h_0_kept h_0_column h_0_size h_0_hidden h_0_cell h_0_home h_0_waste h_0_stock h_0_past h_0_start h_0_known h_0_sorted h_0_row h_0_best I_0), (h_0_of, eI cI 9 (I_0 1)), (h_0_kept, eI cI 9 (I_0 2)), (h_0_column, eJ cJ 5 (L_0 0)), (h_0_size, eI cI 5 (I_0 3)), (h_0_hidden, eI cI 5 (I_0 4)), (h_0_cell, eI cI 2 (I_0 5)), (h_0_home, eI cI 4 (I_0 6)), (h_0_waste, eI cI 8 (I_0 7)), (h_0_stock, eI cI 8 (I_0 8)), (h_0_past, eJ cJ 1616 (L_0 1)), (h_0_start, eJ cJ 8 (L_0 2)), (h_0_known, eJ cJ 3216 (L_0 3)), (h_0_sorted, eJ cJ 3216 (L_0 4)), (h_0_row, eI cI 16 (I_0 9)), (h_0_best, eJ cJ 8 (L_0 5))]) hCF hK (c_X6_fits l D cI cJ h_0 h_0_of h_0_kept h_0_column h_0_size h_0_hidden h_0_cell h_0_home h_0_waste h_0_stock h_0_past h_0_start h_0_known h_0_sorted h_0_row h_0_best I_0 L_0 v1 x24 x26 hc27) (cwV 2 hts (TBL_V mw_465 mw_466 mw_467 mw_5 mw_468) rfl rfl rfl pmX6_fits ⟨Nat.le_of_ble_eq_true rfl, Nat.le_of_ble_eq_true rfl⟩) hS hA [0, 1, 2, 3, 4, 5, 6, 7, 8, 9, 10, 11, 12, 13, 14, 15] [] rfl rfl rfl rfl (by decide) rfl rfl rfl hl.1 rfl (Nat.le_of_ble_eq_true rfl) ⟨Nat.zero_le _, Nat.zero_le _⟩ dX6_comesTo_36 rfl (fun H locs hS => ?_)
      replace hF := zb_e hF
      obtain ⟨h01_28, hF⟩ := hF
      have e9_0 := Option.some.inj hF
      subst e9_0
      exact kret _ _ _ _ h01_28 hS dX6_comesTo_39
  · replace hF := ifn hF c_3
    refine lv_iconst (v := (nI 0)) hx hb dX6_comesTo_10 (by decide) ?_
    replace hF := zb_e hF
    obtain ⟨h01_29, hF⟩ := hF
    have e9_0 := Option.some.inj hF
    subst e9_0
    exact kret _ _ _ _ h01_29 hS dX6_comesTo_11
set_option maxHeartbeats 4000000 in
set_option maxRecDepth 100000 in
theorem c_X6_isRow (l : Launch) (D : va_G) (cI cJ : ClassId) (h_0 h_0_of h_0_kept h_0_column h_0_size h_0_hidden h_0_cell h_0_home h_0_waste h_0_stock h_0_past h_0_start h_0_known h_0_sorted h_0_row h_0_best : Nat) (I_0 : Nat → Nat → Int32) (L_0 : Nat → Nat → Int64) (v1 : Int32) (v2 : Int32) (v3 : Int32) (rv : Int32) (hF : F_X6_isRow I_0 L_0 v1 v2 v3 = some rv) : CtI l D [(cI, .int), (cJ, .long)] yX6_isRow wtX6_isRow ({ frames := 3, cells := 0, slots := 0, locals := 68 } : Room) [.ref h_0, .int v1, .int v2, .int v3] [(h_0, oX6 h_0_of h_0_kept h_0_column h_0_size h_0_hidden h_0_cell h_0_home h_0_waste h_0_stock h_0_past h_0_start h_0_known h_0_sorted h_0_row h_0_best I_0), (h_0_of, eI cI 9 (I_0 1)), (h_0_kept, eI cI 9 (I_0 2)), (h_0_column, eJ cJ 5 (L_0 0)), (h_0_size, eI cI 5 (I_0 3)), (h_0_hidden, eI cI 5 (I_0 4)), (h_0_cell, eI cI 2 (I_0 5)), (h_0_home, eI cI 4 (I_0 6)), (h_0_waste, eI cI 8 (I_0 7)), (h_0_stock, eI cI 8 (I_0 8)), (h_0_past, eJ cJ 1616 (L_0 1)), (h_0_start, eJ cJ 8 (L_0 2)), (h_0_known, eJ cJ 3216 (L_0 3)), (h_0_sorted, eJ cJ 3216 (L_0 4)), (h_0_row, eI cI 16 (I_0 9)), (h_0_best, eJ cJ 8 (L_0 5))] [(h_0, oX6 h_0_of h_0_kept h_0_column h_0_size h_0_hidden h_0_cell h_0_home h_0_waste h_0_stock h_0_past h_0_start h_0_known h_0_sorted h_0_row h_0_best I_0), (h_0_of, eI cI 9 (I_0 1)), (h_0_kept, eI cI 9 (I_0 2)), (h_0_column, eJ cJ 5 (L_0 0)), (h_0_size, eI cI 5 (I_0 3)), (h_0_hidden, eI cI 5 (I_0 4)), (h_0_cell, eI cI 2 (I_0 5)), (h_0_home, eI cI 4 (I_0 6)), (h_0_waste, eI cI 8 (I_0 7)), (h_0_stock, eI cI 8 (I_0 8)), (h_0_past, eJ cJ 1616 (L_0 1)), (h_0_start, eJ cJ 8 (L_0 2)), (h_0_known, eJ cJ 3216 (L_0 3)), (h_0_sorted, eJ cJ 3216 (L_0 4)), (h_0_row, eI cI 16 (I_0 9)), (h_0_best, eJ cJ 8 (L_0 5))] rv := by
  refine CtZ.of (cc := cX6_isRow) (maxL := 8) (by decide) rfl (Nat.le_of_ble_eq_true rfl) ?_
  intro p e s m args below meth c A H0 Q ls X hS hl kret
  have hCF := X.1
  obtain ⟨⟨hx, hb, hml, hown, hts⟩, hK, hA⟩ := X
  have hl : lv_has ls 8 [(0, .ref h_0), (1, .int v1), (2, .int v2), (3, .int v3)] := hl
  have q0 := hts (.fieldLink RX6 25 "PatienceryModel" "of" "[I") (List.mem_cons_of_mem _ mw_161)
  have inX6 : ∀ w ∈ u_ws RX6 TX6 32, w ∈ wtX6_isRow := fun w h => List.mem_cons_of_mem _ (inlX6 w h)
  have q2 := hts (.fieldLink RX6 36 "PatienceryModel" "size" "[I") (List.mem_cons_of_mem _ mw_164)
  have q3 := hts (.fieldLink RX6 42 "PatienceryModel" "cell" "[I") (List.mem_cons_of_mem _ mw_166)
  have q4 := hts (.fieldLink RX6 39 "PatienceryModel" "hidden" "[I") (List.mem_cons_of_mem _ mw_165)
  have B173 : ∀ (v1 : Int32) (v2 : Int32) (v3 : Int32) (v4 : Int32) (v5 : Int32) (v6 : Int32) (H : Heap) (locs : List Loc) (ls : Array Slot), HS D A H0 [(h_0, oX6 h_0_of h_0_kept h_0_column h_0_size h_0_hidden h_0_cell h_0_home h_0_waste h_0_stock h_0_past h_0_start h_0_known h_0_sorted h_0_row h_0_best I_0), (h_0_of, eI cI 9 (I_0 1)), (h_0_kept, eI cI 9 (I_0 2)), (h_0_column, eJ cJ 5 (L_0 0)), (h_0_size, eI cI 5 (I_0 3)), (h_0_hidden, eI cI 5 (I_0 4)), (h_0_cell, eI cI 2 (I_0 5)), (h_0_home, eI cI 4 (I_0 6)), (h_0_waste, eI cI 8 (I_0 7)), (h_0_stock, eI cI 8 (I_0 8)), (h_0_past, eJ cJ 1616 (L_0 1)), (h_0_start, eJ cJ 8 (L_0 2)), (h_0_known, eJ cJ 3216 (L_0 3)), (h_0_sorted, eJ cJ 3216 (L_0 4)), (h_0_row, eI cI 16 (I_0 9)), (h_0_best, eJ cJ 8 (L_0 5))] H locs → lv_has ls 8 [(0, .ref h_0), (1, .int v1), (2, .int v2), (3, .int v3), (4, .int v4), (5, .int v5), (6, .int v6)] → F_X6_isRow_b173 I_0 L_0  v1 v2 v3 v4 v5 v6 = some rv → W p l e ({ frames := 3, cells := 0, slots := 0, locals := 68 } : Room) s m args below meth c H locs 0 0 Q (F0 m 173 ls []) := by
    intro v1 v2 v3 v4 v5 v6 H locs ls hS hl hF
    unfold F_X6_isRow_b173 at hF
    refine lv_iload hx hb dX6_isRow_173 (lv_at hl 5 rfl) ?_
    refine lv_if_eq (tgt := 203) hx hb dX6_isRow_175 (by decide) (fun c_1 => ?_) (fun c_1 => ?_)
    · replace hF := ifp hF c_1
      refine lv_iconst (v := (nI 0)) hx hb dX6_isRow_203 (by decide) ?_
      replace hF := zb_e hF
      obtain ⟨h01_2, hF⟩ := hF
      have e9_0 := Option.some.inj hF
      subst e9_0
      exact kret _ _ _ _ h01_2 hS dX6_isRow_204
    · replace hF := ifn hF c_1
      refine lv_iload_n hx hb dX6_isRow_178 rfl (lv_at hl 3 rfl) ?_
      refine lv_iload hx hb dX6_isRow_179 (lv_at hl 6 rfl) ?_
      refine lv_icmp_gt (tgt := 203) hx hb dX6_isRow_181 (by decide) (fun c_3 => ?_) (fun c_3 => ?_)
      · replace hF := ifp hF c_3
        refine lv_iconst (v := (nI 0)) hx hb dX6_isRow_203 (by decide) ?_
        replace hF := zb_e hF
        obtain ⟨h01_4, hF⟩ := hF
        have e9_0 := Option.some.inj hF
        subst e9_0
        exact kret _ _ _ _ h01_4 hS dX6_isRow_204
      · replace hF := ifn hF c_3
        refine lv_aload_n hx hb dX6_isRow_184 rfl (lv_at hl 0 rfl) ?_
        refine lv_aload_n hx hb dX6_isRow_185 rfl (lv_at hl 0 rfl) ?_
        refine lv_iload_n hx hb dX6_isRow_186 rfl (lv_at hl 1 rfl) ?_
        refine lv_iload hx hb dX6_isRow_187 (lv_at hl 4 rfl) ?_
        replace hF := cal1_e hF
        obtain ⟨x5, hc6, hF⟩ := hF
        refine kV_i (As := [.int v1, .int v4]) (rest := [.ref h_0]) (wr := []) (w2 := [(h_0, oX6 h_0_of h_0_kept h_0_column h_0_size h_0_hidden h_0_cell h_0_home h_0_waste h_0_stock h_0_past h_0_start h_0_known h_0_sorted h_0_row h_0_best I_0), (h_0_of, eI cI 9 (I_0 1)), (h_0_kept, eI cI 9 (I_0 2)), (h_0_column, eJ cJ 5 (L_0 0)), (h_0_size, eI cI 5 (I_0 3)), (h_0_hidden, eI cI 5 (I_0 4)), (h_0_cell, eI cI 2 (I_0 5)), (h_0_home, eI cI 4 (I_0 6)), (h_0_waste, eI cI 8 (I_0 7)), (h_0_stock, eI cI 8 (I_0 8)), (h_0_past, eJ cJ 1616 (L_0 1)), (h_0_start, eJ cJ 8 (L_0 2)), (h_0_known, eJ cJ 3216 (L_0 3)), (h_0_sorted, eJ cJ 3216 (L_0 4)), (h_0_row, eI cI 16 (I_0 9)), (h_0_best, eJ cJ 8 (L_0 5))]) hCF hK (c_X6_cardAt l D cI cJ h_0 h_0_of h_0_kept h_0_column h_0_size h_0_hidden h_0_cell h_0_home h_0_waste h_0_stock h_0_past h_0_start h_0_known h_0_sorted h_0_row h_0_best I_0 L_0 v1 v4 x5 hc6) (cwV 2 hts (TBL_V mw_461 mw_462 mw_463 mw_5 mw_464) rfl rfl rfl pmX6_cardAt ⟨Nat.le_of_ble_eq_true rfl, Nat.le_of_ble_eq_true rfl⟩) hS hA [0, 1, 2, 3, 4, 5, 6, 7, 8, 9, 10, 11, 12, 13, 14, 15] [] rfl rfl rfl rfl (by decide) rfl rfl rfl hl.1 rfl (Nat.le_of_ble_eq_true rfl) ⟨Nat.zero_le _, Nat.zero_le _⟩ dX6_isRow_189 rfl (fun H locs hS => ?_)
        refine lv_iload_n hx hb dX6_isRow_192 rfl (lv_at hl 2 rfl) ?_
        replace hF := cal1_e hF
        obtain ⟨x7, hc8, hF⟩ := hF
        refine kV_i (As := [.int x5, .int v2]) (rest := []) (wr := []) (w2 := [(h_0, oX6 h_0_of h_0_kept h_0_column h_0_size h_0_hidden h_0_cell h_0_home h_0_waste h_0_stock h_0_past h_0_start h_0_known h_0_sorted h_0_row h_0_best I_0), (h_0_of, eI cI 9 (I_0 1)), (h_0_kept, eI cI 9 (I_0 2)), (h_0_column, eJ cJ 5 (L_0 0)), (h_0_size, eI cI 5 (I_0 3)), (h_0_hidden, eI cI 5 (I_0 4)), (h_0_cell, eI cI 2 (I_0 5)), (h_0_home, eI cI 4 (I_0 6)), (h_0_waste, eI cI 8 (I_0 7)), (h_0_stock, eI cI 8 (I_0 8)), (h_0_past, eJ cJ 1616 (L_0 1)), (h_0_start, eJ cJ 8 (L_0 2)), (h_0_known, eJ cJ 3216 (L_0 3)), (h_0_sorted, eJ cJ 3216 (L_0 4)), (h_0_row, eI cI 16 (I_0 9)), (h_0_best, eJ cJ 8 (L_0 5))]) hCF hK (c_X6_comesTo l D cI cJ h_0 h_0_of h_0_kept h_0_column h_0_size h_0_hidden h_0_cell h_0_home h_0_waste h_0_stock h_0_past h_0_start h_0_known h_0_sorted h_0_row h_0_best I_0 L_0 x5 v2 x7 hc8) (cwV 2 hts (TBL_V mw_477 mw_478 mw_479 mw_5 mw_480) rfl rfl rfl pmX6_comesTo ⟨Nat.le_of_ble_eq_true rfl, Nat.le_of_ble_eq_true rfl⟩) hS hA [0, 1, 2, 3, 4, 5, 6, 7, 8, 9, 10, 11, 12, 13, 14, 15] [] rfl rfl rfl rfl (by decide) rfl rfl rfl hl.1 rfl (Nat.le_of_ble_eq_true rfl) ⟨Nat.zero_le _, Nat.zero_le _⟩ dX6_isRow_193 rfl (fun H locs hS => ?_)
        refine lv_if_eq (tgt := 203) hx hb dX6_isRow_196 (by decide) (fun c_9 => ?_) (fun c_9 => ?_)
        · replace hF := ifp hF c_9
          refine lv_iconst (v := (nI 0)) hx hb dX6_isRow_203 (by decide) ?_
          replace hF := zb_e hF
          obtain ⟨h01_10, hF⟩ := hF
          have e9_0 := Option.some.inj hF
          subst e9_0
          exact kret _ _ _ _ h01_10 hS dX6_isRow_204
        · replace hF := ifn hF c_9
          refine lv_iconst (v := (nI 1)) hx hb dX6_isRow_199 (by decide) ?_
          refine lv_goto (tgt := 204) hx hb dX6_isRow_200 (by decide) ?_
          replace hF := zb_e hF
          obtain ⟨h01_11, hF⟩ := hF
          have e9_0 := Option.some.inj hF
          subst e9_0
          exact kret _ _ _ _ h01_11 hS dX6_isRow_204
  have B164 : ∀ (K130 : Int32 → Int32 → Int32 → Int32 → Int32 → Int32 → Int32 → Option (Int32)) (_ : ∀ (v1 : Int32) (v2 : Int32) (v3 : Int32) (v4 : Int32) (v5 : Int32) (v6 : Int32) (v7 : Int32) (H : Heap) (locs : List Loc) (ls : Array Slot), HS D A H0 [(h_0, oX6 h_0_of h_0_kept h_0_column h_0_size h_0_hidden h_0_cell h_0_home h_0_waste h_0_stock h_0_past h_0_start h_0_known h_0_sorted h_0_row h_0_best I_0), (h_0_of, eI cI 9 (I_0 1)), (h_0_kept, eI cI 9 (I_0 2)), (h_0_column, eJ cJ 5 (L_0 0)), (h_0_size, eI cI 5 (I_0 3)), (h_0_hidden, eI cI 5 (I_0 4)), (h_0_cell, eI cI 2 (I_0 5)), (h_0_home, eI cI 4 (I_0 6)), (h_0_waste, eI cI 8 (I_0 7)), (h_0_stock, eI cI 8 (I_0 8)), (h_0_past, eJ cJ 1616 (L_0 1)), (h_0_start, eJ cJ 8 (L_0 2)), (h_0_known, eJ cJ 3216 (L_0 3)), (h_0_sorted, eJ cJ 3216 (L_0 4)), (h_0_row, eI cI 16 (I_0 9)), (h_0_best, eJ cJ 8 (L_0 5))] H locs → lv_has ls 8 [(0, .ref h_0), (1, .int v1), (2, .int v2), (3, .int v3), (4, .int v4), (5, .int v5), (6, .int v6), (7, .int v7)] → K130 v1 v2 v3 v4 v5 v6 v7 = some rv → W p l e ({ frames := 3, cells := 0, slots := 0, locals := 68 } : Room) s m args below meth c H locs 0 0 Q (F0 m 130 ls [])) (v1 : Int32) (v2 : Int32) (v3 : Int32) (v4 : Int32) (v5 : Int32) (v7 : Int32) (s0 : Int32) (s1 : Int32) (H : Heap) (locs : List Loc) (ls : Array Slot), HS D A H0 [(h_0, oX6 h_0_of h_0_kept h_0_column h_0_size h_0_hidden h_0_cell h_0_home h_0_waste h_0_stock h_0_past h_0_start h_0_known h_0_sorted h_0_row h_0_best I_0), (h_0_of, eI cI 9 (I_0 1)), (h_0_kept, eI cI 9 (I_0 2)), (h_0_column, eJ cJ 5 (L_0 0)), (h_0_size, eI cI 5 (I_0 3)), (h_0_hidden, eI cI 5 (I_0 4)), (h_0_cell, eI cI 2 (I_0 5)), (h_0_home, eI cI 4 (I_0 6)), (h_0_waste, eI cI 8 (I_0 7)), (h_0_stock, eI cI 8 (I_0 8)), (h_0_past, eJ cJ 1616 (L_0 1)), (h_0_start, eJ cJ 8 (L_0 2)), (h_0_known, eJ cJ 3216 (L_0 3)), (h_0_sorted, eJ cJ 3216 (L_0 4)), (h_0_row, eI cI 16 (I_0 9)), (h_0_best, eJ cJ 8 (L_0 5))] H locs → lv_has ls 8 [(0, .ref h_0), (1, .int v1), (2, .int v2), (3, .int v3), (4, .int v4), (5, .int v5), (7, .int v7)] → F_X6_isRow_b164 I_0 L_0 K130 v1 v2 v3 v4 v5 v7 s0 s1 = some rv → W p l e ({ frames := 3, cells := 0, slots := 0, locals := 68 } : Room) s m args below meth c H locs 0 0 Q (F0 m 164 ls [.int s1, .int s0]) := by
    intro K130 hK130 v1 v2 v3 v4 v5 v7 s0 s1 H locs ls hS hl hF
    unfold F_X6_isRow_b164 at hF
    refine lv_imul hx hb dX6_isRow_164 ?_
    refine lv_istore (lv' := [(6, .int (s0 * s1)), (0, .ref h_0), (1, .int v1), (2, .int v2), (3, .int v3), (4, .int v4), (5, .int v5), (7, .int v7)]) hx hb dX6_isRow_165 hl (by decide) rfl (fun ls hl => ?_)
    refine lv_iinc (v := v7 + (nI 1)) (lv' := [(7, .int (v7 + (nI 1))), (6, .int (s0 * s1)), (0, .ref h_0), (1, .int v1), (2, .int v2), (3, .int v3), (4, .int v4), (5, .int v5)]) hx hb dX6_isRow_167 hl (k := 7) rfl rfl (by decide) rfl (fun ls hl => ?_)
    refine lv_goto (tgt := 130) hx hb dX6_isRow_170 (by decide) ?_
    exact hK130 v1 v2 v3 v4 v5 (s0 * s1) (v7 + (nI 1)) _ _ _ hS (lv_sub hl [2, 3, 4, 5, 6, 7, 1, 0] rfl) hF
  have S130 : ∀ (K130 : Int32 → Int32 → Int32 → Int32 → Int32 → Int32 → Int32 → Option (Int32)) (_ : ∀ (v1 : Int32) (v2 : Int32) (v3 : Int32) (v4 : Int32) (v5 : Int32) (v6 : Int32) (v7 : Int32) (H : Heap) (locs : List Loc) (ls : Array Slot), HS D A H0 [(h_0, oX6 h_0_of h_0_kept h_0_column h_0_size h_0_hidden h_0_cell h_0_home h_0_waste h_0_stock h_0_past h_0_start h_0_known h_0_sorted h_0_row h_0_best I_0), (h_0_of, eI cI 9 (I_0 1)), (h_0_kept, eI cI 9 (I_0 2)), (h_0_column, eJ cJ 5 (L_0 0)), (h_0_size, eI cI 5 (I_0 3)), (h_0_hidden, eI cI 5 (I_0 4)), (h_0_cell, eI cI 2 (I_0 5)), (h_0_home, eI cI 4 (I_0 6)), (h_0_waste, eI cI 8 (I_0 7)), (h_0_stock, eI cI 8 (I_0 8)), (h_0_past, eJ cJ 1616 (L_0 1)), (h_0_start, eJ cJ 8 (L_0 2)), (h_0_known, eJ cJ 3216 (L_0 3)), (h_0_sorted, eJ cJ 3216 (L_0 4)), (h_0_row, eI cI 16 (I_0 9)), (h_0_best, eJ cJ 8 (L_0 5))] H locs → lv_has ls 8 [(0, .ref h_0), (1, .int v1), (2, .int v2), (3, .int v3), (4, .int v4), (5, .int v5), (6, .int v6), (7, .int v7)] → K130 v1 v2 v3 v4 v5 v6 v7 = some rv → W p l e ({ frames := 3, cells := 0, slots := 0, locals := 68 } : Room) s m args below meth c H locs 0 0 Q (F0 m 130 ls [])) (v1 : Int32) (v2 : Int32) (v3 : Int32) (v4 : Int32) (v5 : Int32) (v6 : Int32) (v7 : Int32) (H : Heap) (locs : List Loc) (ls : Array Slot), HS D A H0 [(h_0, oX6 h_0_of h_0_kept h_0_column h_0_size h_0_hidden h_0_cell h_0_home h_0_waste h_0_stock h_0_past h_0_start h_0_known h_0_sorted h_0_row h_0_best I_0), (h_0_of, eI cI 9 (I_0 1)), (h_0_kept, eI cI 9 (I_0 2)), (h_0_column, eJ cJ 5 (L_0 0)), (h_0_size, eI cI 5 (I_0 3)), (h_0_hidden, eI cI 5 (I_0 4)), (h_0_cell, eI cI 2 (I_0 5)), (h_0_home, eI cI 4 (I_0 6)), (h_0_waste, eI cI 8 (I_0 7)), (h_0_stock, eI cI 8 (I_0 8)), (h_0_past, eJ cJ 1616 (L_0 1)), (h_0_start, eJ cJ 8 (L_0 2)), (h_0_known, eJ cJ 3216 (L_0 3)), (h_0_sorted, eJ cJ 3216 (L_0 4)), (h_0_row, eI cI 16 (I_0 9)), (h_0_best, eJ cJ 8 (L_0 5))] H locs → lv_has ls 8 [(0, .ref h_0), (1, .int v1), (2, .int v2), (3, .int v3), (4, .int v4), (5, .int v5), (6, .int v6), (7, .int v7)] → F_X6_isRow_s130 I_0 L_0 K130 v1 v2 v3 v4 v5 v6 v7 = some rv → W p l e ({ frames := 3, cells := 0, slots := 0, locals := 68 } : Room) s m args below meth c H locs 0 0 Q (F0 m 130 ls []) := by
    intro K130 hK130 v1 v2 v3 v4 v5 v6 v7 H locs ls hS hl hF
    unfold F_X6_isRow_s130 at hF
    refine lv_iload hx hb dX6_isRow_130 (lv_at hl 7 rfl) ?_
    refine lv_aload_n hx hb dX6_isRow_132 rfl (lv_at hl 0 rfl) ?_
    refine r_get hx hb hts inX6 hown hK hS 0 10 rfl rfl (by decide) q0 rfl dX6_isRow_133 ?_
    refine lv_iconst (v := (nI 2)) hx hb dX6_isRow_136 (by decide) ?_
    replace hF := rdA_e hF
    obtain ⟨hi13, x12, ex12, hF⟩ := hF
    refine r_iald hx hb hK hS 1 rfl rfl hi13 dX6_isRow_137 ex12 ?_
    refine lv_icmp_ge (tgt := 173) hx hb dX6_isRow_138 (by decide) (fun c_14 => ?_) (fun c_14 => ?_)
    · replace hF := ifp hF c_14
      exact B173 v1 v2 v3 v4 v5 v6 _ _ _ hS (lv_sub hl [0, 1, 2, 3, 4, 5, 6] rfl) hF
    · replace hF := ifn hF c_14
      refine lv_iload hx hb dX6_isRow_141 (lv_at hl 6 rfl) ?_
      refine lv_aload_n hx hb dX6_isRow_143 rfl (lv_at hl 0 rfl) ?_
      refine r_get hx hb hts inX6 hown hK hS 0 16 rfl rfl (by decide) q2 rfl dX6_isRow_144 ?_
      refine lv_iload hx hb dX6_isRow_147 (lv_at hl 7 rfl) ?_
      replace hF := rdA_e hF
      obtain ⟨hi16, x15, ex15, hF⟩ := hF
      refine r_iald hx hb hK hS 4 rfl rfl hi16 dX6_isRow_149 ex15 ?_
      refine lv_if_ne (tgt := 163) hx hb dX6_isRow_150 (by decide) (fun c_17 => ?_) (fun c_17 => ?_)
      · replace hF := ifn hF c_17
        refine lv_iconst (v := (nI 1)) hx hb dX6_isRow_163 (by decide) ?_
        exact B164 K130 hK130 v1 v2 v3 v4 v5 v7 v6 (nI 1) _ _ _ hS (lv_sub hl [0, 1, 2, 3, 4, 5, 7] rfl) hF
      · replace hF := ifp hF c_17
        refine lv_iload hx hb dX6_isRow_153 (lv_at hl 7 rfl) ?_
        refine lv_iload_n hx hb dX6_isRow_155 rfl (lv_at hl 2 rfl) ?_
        refine lv_icmp_eq (tgt := 163) hx hb dX6_isRow_156 (by decide) (fun c_18 => ?_) (fun c_18 => ?_)
        · replace hF := ifp hF c_18
          refine lv_iconst (v := (nI 1)) hx hb dX6_isRow_163 (by decide) ?_
          exact B164 K130 hK130 v1 v2 v3 v4 v5 v7 v6 (nI 1) _ _ _ hS (lv_sub hl [0, 1, 2, 3, 4, 5, 7] rfl) hF
        · replace hF := ifn hF c_18
          refine lv_iconst (v := (nI 2)) hx hb dX6_isRow_159 (by decide) ?_
          refine lv_goto (tgt := 164) hx hb dX6_isRow_160 (by decide) ?_
          exact B164 K130 hK130 v1 v2 v3 v4 v5 v7 v6 (nI 2) _ _ _ hS (lv_sub hl [0, 1, 2, 3, 4, 5, 7] rfl) hF
  have L130 : ∀  (n : Nat) (v1 : Int32) (v2 : Int32) (v3 : Int32) (v4 : Int32) (v5 : Int32) (v6 : Int32) (v7 : Int32) (H : Heap) (locs : List Loc) (ls : Array Slot), HS D A H0 [(h_0, oX6 h_0_of h_0_kept h_0_column h_0_size h_0_hidden h_0_cell h_0_home h_0_waste h_0_stock h_0_past h_0_start h_0_known h_0_sorted h_0_row h_0_best I_0), (h_0_of, eI cI 9 (I_0 1)), (h_0_kept, eI cI 9 (I_0 2)), (h_0_column, eJ cJ 5 (L_0 0)), (h_0_size, eI cI 5 (I_0 3)), (h_0_hidden, eI cI 5 (I_0 4)), (h_0_cell, eI cI 2 (I_0 5)), (h_0_home, eI cI 4 (I_0 6)), (h_0_waste, eI cI 8 (I_0 7)), (h_0_stock, eI cI 8 (I_0 8)), (h_0_past, eJ cJ 1616 (L_0 1)), (h_0_start, eJ cJ 8 (L_0 2)), (h_0_known, eJ cJ 3216 (L_0 3)), (h_0_sorted, eJ cJ 3216 (L_0 4)), (h_0_row, eI cI 16 (I_0 9)), (h_0_best, eJ cJ 8 (L_0 5))] H locs → lv_has ls 8 [(0, .ref h_0), (1, .int v1), (2, .int v2), (3, .int v3), (4, .int v4), (5, .int v5), (6, .int v6), (7, .int v7)] → F_X6_isRow_L130 I_0 L_0  n v1 v2 v3 v4 v5 v6 v7 = some rv → W p l e ({ frames := 3, cells := 0, slots := 0, locals := 68 } : Room) s m args below meth c H locs 0 0 Q (F0 m 130 ls []) := by
    intro  n
    induction n with
    | zero => intro v1 v2 v3 v4 v5 v6 v7 H locs ls hS hl hF; exact nomatch (show (none : Option (Int32)) = some _ from hF)
    | succ n ih => intro v1 v2 v3 v4 v5 v6 v7 H locs ls hS hl hF; exact S130  _ ih v1 v2 v3 v4 v5 v6 v7 H locs ls hS hl hF
  have B118 : ∀ (K89 : Int32 → Int32 → Int32 → Int32 → Int32 → Int32 → Int32 → Option (Int32)) (_ : ∀ (v1 : Int32) (v2 : Int32) (v3 : Int32) (v4 : Int32) (v5 : Int32) (v6 : Int32) (v7 : Int32) (H : Heap) (locs : List Loc) (ls : Array Slot), HS D A H0 [(h_0, oX6 h_0_of h_0_kept h_0_column h_0_size h_0_hidden h_0_cell h_0_home h_0_waste h_0_stock h_0_past h_0_start h_0_known h_0_sorted h_0_row h_0_best I_0), (h_0_of, eI cI 9 (I_0 1)), (h_0_kept, eI cI 9 (I_0 2)), (h_0_column, eJ cJ 5 (L_0 0)), (h_0_size, eI cI 5 (I_0 3)), (h_0_hidden, eI cI 5 (I_0 4)), (h_0_cell, eI cI 2 (I_0 5)), (h_0_home, eI cI 4 (I_0 6)), (h_0_waste, eI cI 8 (I_0 7)), (h_0_stock, eI cI 8 (I_0 8)), (h_0_past, eJ cJ 1616 (L_0 1)), (h_0_start, eJ cJ 8 (L_0 2)), (h_0_known, eJ cJ 3216 (L_0 3)), (h_0_sorted, eJ cJ 3216 (L_0 4)), (h_0_row, eI cI 16 (I_0 9)), (h_0_best, eJ cJ 8 (L_0 5))] H locs → lv_has ls 8 [(0, .ref h_0), (1, .int v1), (2, .int v2), (3, .int v3), (4, .int v4), (5, .int v5), (6, .int v6), (7, .int v7)] → K89 v1 v2 v3 v4 v5 v6 v7 = some rv → W p l e ({ frames := 3, cells := 0, slots := 0, locals := 68 } : Room) s m args below meth c H locs 0 0 Q (F0 m 89 ls [])) (v1 : Int32) (v2 : Int32) (v3 : Int32) (v4 : Int32) (v5 : Int32) (v7 : Int32) (s0 : Int32) (s1 : Int32) (H : Heap) (locs : List Loc) (ls : Array Slot), HS D A H0 [(h_0, oX6 h_0_of h_0_kept h_0_column h_0_size h_0_hidden h_0_cell h_0_home h_0_waste h_0_stock h_0_past h_0_start h_0_known h_0_sorted h_0_row h_0_best I_0), (h_0_of, eI cI 9 (I_0 1)), (h_0_kept, eI cI 9 (I_0 2)), (h_0_column, eJ cJ 5 (L_0 0)), (h_0_size, eI cI 5 (I_0 3)), (h_0_hidden, eI cI 5 (I_0 4)), (h_0_cell, eI cI 2 (I_0 5)), (h_0_home, eI cI 4 (I_0 6)), (h_0_waste, eI cI 8 (I_0 7)), (h_0_stock, eI cI 8 (I_0 8)), (h_0_past, eJ cJ 1616 (L_0 1)), (h_0_start, eJ cJ 8 (L_0 2)), (h_0_known, eJ cJ 3216 (L_0 3)), (h_0_sorted, eJ cJ 3216 (L_0 4)), (h_0_row, eI cI 16 (I_0 9)), (h_0_best, eJ cJ 8 (L_0 5))] H locs → lv_has ls 8 [(0, .ref h_0), (1, .int v1), (2, .int v2), (3, .int v3), (4, .int v4), (5, .int v5), (7, .int v7)] → F_X6_isRow_b118 I_0 L_0 K89 v1 v2 v3 v4 v5 v7 s0 s1 = some rv → W p l e ({ frames := 3, cells := 0, slots := 0, locals := 68 } : Room) s m args below meth c H locs 0 0 Q (F0 m 118 ls [.int s1, .int s0]) := by
    intro K89 hK89 v1 v2 v3 v4 v5 v7 s0 s1 H locs ls hS hl hF
    unfold F_X6_isRow_b118 at hF
    refine lv_iadd hx hb dX6_isRow_118 ?_
    refine lv_istore (lv' := [(6, .int (s0 + s1)), (0, .ref h_0), (1, .int v1), (2, .int v2), (3, .int v3), (4, .int v4), (5, .int v5), (7, .int v7)]) hx hb dX6_isRow_119 hl (by decide) rfl (fun ls hl => ?_)
    refine lv_iinc (v := v7 + (nI 1)) (lv' := [(7, .int (v7 + (nI 1))), (6, .int (s0 + s1)), (0, .ref h_0), (1, .int v1), (2, .int v2), (3, .int v3), (4, .int v4), (5, .int v5)]) hx hb dX6_isRow_121 hl (k := 7) rfl rfl (by decide) rfl (fun ls hl => ?_)
    refine lv_goto (tgt := 89) hx hb dX6_isRow_124 (by decide) ?_
    exact hK89 v1 v2 v3 v4 v5 (s0 + s1) (v7 + (nI 1)) _ _ _ hS (lv_sub hl [2, 3, 4, 5, 6, 7, 1, 0] rfl) hF
  have S89 : ∀ (K89 : Int32 → Int32 → Int32 → Int32 → Int32 → Int32 → Int32 → Option (Int32)) (_ : ∀ (v1 : Int32) (v2 : Int32) (v3 : Int32) (v4 : Int32) (v5 : Int32) (v6 : Int32) (v7 : Int32) (H : Heap) (locs : List Loc) (ls : Array Slot), HS D A H0 [(h_0, oX6 h_0_of h_0_kept h_0_column h_0_size h_0_hidden h_0_cell h_0_home h_0_waste h_0_stock h_0_past h_0_start h_0_known h_0_sorted h_0_row h_0_best I_0), (h_0_of, eI cI 9 (I_0 1)), (h_0_kept, eI cI 9 (I_0 2)), (h_0_column, eJ cJ 5 (L_0 0)), (h_0_size, eI cI 5 (I_0 3)), (h_0_hidden, eI cI 5 (I_0 4)), (h_0_cell, eI cI 2 (I_0 5)), (h_0_home, eI cI 4 (I_0 6)), (h_0_waste, eI cI 8 (I_0 7)), (h_0_stock, eI cI 8 (I_0 8)), (h_0_past, eJ cJ 1616 (L_0 1)), (h_0_start, eJ cJ 8 (L_0 2)), (h_0_known, eJ cJ 3216 (L_0 3)), (h_0_sorted, eJ cJ 3216 (L_0 4)), (h_0_row, eI cI 16 (I_0 9)), (h_0_best, eJ cJ 8 (L_0 5))] H locs → lv_has ls 8 [(0, .ref h_0), (1, .int v1), (2, .int v2), (3, .int v3), (4, .int v4), (5, .int v5), (6, .int v6), (7, .int v7)] → K89 v1 v2 v3 v4 v5 v6 v7 = some rv → W p l e ({ frames := 3, cells := 0, slots := 0, locals := 68 } : Room) s m args below meth c H locs 0 0 Q (F0 m 89 ls [])) (v1 : Int32) (v2 : Int32) (v3 : Int32) (v4 : Int32) (v5 : Int32) (v6 : Int32) (v7 : Int32) (H : Heap) (locs : List Loc) (ls : Array Slot), HS D A H0 [(h_0, oX6 h_0_of h_0_kept h_0_column h_0_size h_0_hidden h_0_cell h_0_home h_0_waste h_0_stock h_0_past h_0_start h_0_known h_0_sorted h_0_row h_0_best I_0), (h_0_of, eI cI 9 (I_0 1)), (h_0_kept, eI cI 9 (I_0 2)), (h_0_column, eJ cJ 5 (L_0 0)), (h_0_size, eI cI 5 (I_0 3)), (h_0_hidden, eI cI 5 (I_0 4)), (h_0_cell, eI cI 2 (I_0 5)), (h_0_home, eI cI 4 (I_0 6)), (h_0_waste, eI cI 8 (I_0 7)), (h_0_stock, eI cI 8 (I_0 8)), (h_0_past, eJ cJ 1616 (L_0 1)), (h_0_start, eJ cJ 8 (L_0 2)), (h_0_known, eJ cJ 3216 (L_0 3)), (h_0_sorted, eJ cJ 3216 (L_0 4)), (h_0_row, eI cI 16 (I_0 9)), (h_0_best, eJ cJ 8 (L_0 5))] H locs → lv_has ls 8 [(0, .ref h_0), (1, .int v1), (2, .int v2), (3, .int v3), (4, .int v4), (5, .int v5), (6, .int v6), (7, .int v7)] → F_X6_isRow_s89 I_0 L_0 K89 v1 v2 v3 v4 v5 v6 v7 = some rv → W p l e ({ frames := 3, cells := 0, slots := 0, locals := 68 } : Room) s m args below meth c H locs 0 0 Q (F0 m 89 ls []) := by
    intro K89 hK89 v1 v2 v3 v4 v5 v6 v7 H locs ls hS hl hF
    unfold F_X6_isRow_s89 at hF
    refine lv_iload hx hb dX6_isRow_89 (lv_at hl 7 rfl) ?_
    refine lv_aload_n hx hb dX6_isRow_91 rfl (lv_at hl 0 rfl) ?_
    refine r_get hx hb hts inX6 hown hK hS 0 10 rfl rfl (by decide) q0 rfl dX6_isRow_92 ?_
    refine lv_iconst (v := (nI 3)) hx hb dX6_isRow_95 (by decide) ?_
    replace hF := rdA_e hF
    obtain ⟨hi20, x19, ex19, hF⟩ := hF
    refine r_iald hx hb hK hS 1 rfl rfl hi20 dX6_isRow_96 ex19 ?_
    refine lv_icmp_ge (tgt := 127) hx hb dX6_isRow_97 (by decide) (fun c_21 => ?_) (fun c_21 => ?_)
    · replace hF := ifp hF c_21
      refine lv_iconst (v := (nI 0)) hx hb dX6_isRow_127 (by decide) ?_
      refine lv_istore (lv' := [(7, .int (nI 0)), (0, .ref h_0), (1, .int v1), (2, .int v2), (3, .int v3), (4, .int v4), (5, .int v5), (6, .int v6)]) hx hb dX6_isRow_128 hl (by decide) rfl (fun ls hl => ?_)
      exact L130 FU v1 v2 v3 v4 v5 v6 (nI 0) _ _ _ hS (lv_sub hl [1, 2, 3, 4, 5, 6, 7, 0] rfl) hF
    · replace hF := ifn hF c_21
      refine lv_iload hx hb dX6_isRow_100 (lv_at hl 6 rfl) ?_
      refine lv_aload_n hx hb dX6_isRow_102 rfl (lv_at hl 0 rfl) ?_
      refine r_get hx hb hts inX6 hown hK hS 0 18 rfl rfl (by decide) q3 rfl dX6_isRow_103 ?_
      refine lv_iload hx hb dX6_isRow_106 (lv_at hl 7 rfl) ?_
      replace hF := rdA_e hF
      obtain ⟨hi23, x22, ex22, hF⟩ := hF
      refine r_iald hx hb hK hS 6 rfl rfl hi23 dX6_isRow_108 ex22 ?_
      refine lv_iconst (v := (-1)) hx hb dX6_isRow_109 (by decide) ?_
      refine lv_icmp_ne (tgt := 117) hx hb dX6_isRow_110 (by decide) (fun c_24 => ?_) (fun c_24 => ?_)
      · replace hF := ifn hF c_24
        refine lv_iconst (v := (nI 0)) hx hb dX6_isRow_117 (by decide) ?_
        exact B118 K89 hK89 v1 v2 v3 v4 v5 v7 v6 (nI 0) _ _ _ hS (lv_sub hl [0, 1, 2, 3, 4, 5, 7] rfl) hF
      · replace hF := ifp hF c_24
        refine lv_iconst (v := (nI 1)) hx hb dX6_isRow_113 (by decide) ?_
        refine lv_goto (tgt := 118) hx hb dX6_isRow_114 (by decide) ?_
        exact B118 K89 hK89 v1 v2 v3 v4 v5 v7 v6 (nI 1) _ _ _ hS (lv_sub hl [0, 1, 2, 3, 4, 5, 7] rfl) hF
  have L89 : ∀  (n : Nat) (v1 : Int32) (v2 : Int32) (v3 : Int32) (v4 : Int32) (v5 : Int32) (v6 : Int32) (v7 : Int32) (H : Heap) (locs : List Loc) (ls : Array Slot), HS D A H0 [(h_0, oX6 h_0_of h_0_kept h_0_column h_0_size h_0_hidden h_0_cell h_0_home h_0_waste h_0_stock h_0_past h_0_start h_0_known h_0_sorted h_0_row h_0_best I_0), (h_0_of, eI cI 9 (I_0 1)), (h_0_kept, eI cI 9 (I_0 2)), (h_0_column, eJ cJ 5 (L_0 0)), (h_0_size, eI cI 5 (I_0 3)), (h_0_hidden, eI cI 5 (I_0 4)), (h_0_cell, eI cI 2 (I_0 5)), (h_0_home, eI cI 4 (I_0 6)), (h_0_waste, eI cI 8 (I_0 7)), (h_0_stock, eI cI 8 (I_0 8)), (h_0_past, eJ cJ 1616 (L_0 1)), (h_0_start, eJ cJ 8 (L_0 2)), (h_0_known, eJ cJ 3216 (L_0 3)), (h_0_sorted, eJ cJ 3216 (L_0 4)), (h_0_row, eI cI 16 (I_0 9)), (h_0_best, eJ cJ 8 (L_0 5))] H locs → lv_has ls 8 [(0, .ref h_0), (1, .int v1), (2, .int v2), (3, .int v3), (4, .int v4), (5, .int v5), (6, .int v6), (7, .int v7)] → F_X6_isRow_L89 I_0 L_0  n v1 v2 v3 v4 v5 v6 v7 = some rv → W p l e ({ frames := 3, cells := 0, slots := 0, locals := 68 } : Room) s m args below meth c H locs 0 0 Q (F0 m 89 ls []) := by
    intro  n
    induction n with
    | zero => intro v1 v2 v3 v4 v5 v6 v7 H locs ls hS hl hF; exact nomatch (show (none : Option (Int32)) = some _ from hF)
    | succ n ih => intro v1 v2 v3 v4 v5 v6 v7 H locs ls hS hl hF; exact S89  _ ih v1 v2 v3 v4 v5 v6 v7 H locs ls hS hl hF
  have B83 : ∀ (v1 : Int32) (v2 : Int32) (v3 : Int32) (v4 : Int32) (v5 : Int32) (H : Heap) (locs : List Loc) (ls : Array Slot), HS D A H0 [(h_0, oX6 h_0_of h_0_kept h_0_column h_0_size h_0_hidden h_0_cell h_0_home h_0_waste h_0_stock h_0_past h_0_start h_0_known h_0_sorted h_0_row h_0_best I_0), (h_0_of, eI cI 9 (I_0 1)), (h_0_kept, eI cI 9 (I_0 2)), (h_0_column, eJ cJ 5 (L_0 0)), (h_0_size, eI cI 5 (I_0 3)), (h_0_hidden, eI cI 5 (I_0 4)), (h_0_cell, eI cI 2 (I_0 5)), (h_0_home, eI cI 4 (I_0 6)), (h_0_waste, eI cI 8 (I_0 7)), (h_0_stock, eI cI 8 (I_0 8)), (h_0_past, eJ cJ 1616 (L_0 1)), (h_0_start, eJ cJ 8 (L_0 2)), (h_0_known, eJ cJ 3216 (L_0 3)), (h_0_sorted, eJ cJ 3216 (L_0 4)), (h_0_row, eI cI 16 (I_0 9)), (h_0_best, eJ cJ 8 (L_0 5))] H locs → lv_has ls 8 [(0, .ref h_0), (1, .int v1), (2, .int v2), (3, .int v3), (4, .int v4), (5, .int v5)] → F_X6_isRow_b83 I_0 L_0  v1 v2 v3 v4 v5 = some rv → W p l e ({ frames := 3, cells := 0, slots := 0, locals := 68 } : Room) s m args below meth c H locs 0 0 Q (F0 m 83 ls []) := by
    intro v1 v2 v3 v4 v5 H locs ls hS hl hF
    unfold F_X6_isRow_b83 at hF
    refine lv_iconst (v := (nI 1)) hx hb dX6_isRow_83 (by decide) ?_
    refine lv_istore (lv' := [(6, .int (nI 1)), (0, .ref h_0), (1, .int v1), (2, .int v2), (3, .int v3), (4, .int v4), (5, .int v5)]) hx hb dX6_isRow_84 hl (by decide) rfl (fun ls hl => ?_)
    refine lv_iconst (v := (nI 0)) hx hb dX6_isRow_86 (by decide) ?_
    refine lv_istore (lv' := [(7, .int (nI 0)), (6, .int (nI 1)), (0, .ref h_0), (1, .int v1), (2, .int v2), (3, .int v3), (4, .int v4), (5, .int v5)]) hx hb dX6_isRow_87 hl (by decide) rfl (fun ls hl => ?_)
    exact L89 FU v1 v2 v3 v4 v5 (nI 1) (nI 0) _ _ _ hS (lv_sub hl [2, 3, 4, 5, 6, 7, 1, 0] rfl) hF
  have S37 : ∀ (K37 : Int32 → Int32 → Int32 → Int32 → Int32 → Int32 → Option (Int32)) (_ : ∀ (v1 : Int32) (v2 : Int32) (v3 : Int32) (v4 : Int32) (v5 : Int32) (v6 : Int32) (H : Heap) (locs : List Loc) (ls : Array Slot), HS D A H0 [(h_0, oX6 h_0_of h_0_kept h_0_column h_0_size h_0_hidden h_0_cell h_0_home h_0_waste h_0_stock h_0_past h_0_start h_0_known h_0_sorted h_0_row h_0_best I_0), (h_0_of, eI cI 9 (I_0 1)), (h_0_kept, eI cI 9 (I_0 2)), (h_0_column, eJ cJ 5 (L_0 0)), (h_0_size, eI cI 5 (I_0 3)), (h_0_hidden, eI cI 5 (I_0 4)), (h_0_cell, eI cI 2 (I_0 5)), (h_0_home, eI cI 4 (I_0 6)), (h_0_waste, eI cI 8 (I_0 7)), (h_0_stock, eI cI 8 (I_0 8)), (h_0_past, eJ cJ 1616 (L_0 1)), (h_0_start, eJ cJ 8 (L_0 2)), (h_0_known, eJ cJ 3216 (L_0 3)), (h_0_sorted, eJ cJ 3216 (L_0 4)), (h_0_row, eI cI 16 (I_0 9)), (h_0_best, eJ cJ 8 (L_0 5))] H locs → lv_has ls 8 [(0, .ref h_0), (1, .int v1), (2, .int v2), (3, .int v3), (4, .int v4), (5, .int v5), (6, .int v6)] → K37 v1 v2 v3 v4 v5 v6 = some rv → W p l e ({ frames := 3, cells := 0, slots := 0, locals := 68 } : Room) s m args below meth c H locs 0 0 Q (F0 m 37 ls [])) (v1 : Int32) (v2 : Int32) (v3 : Int32) (v4 : Int32) (v5 : Int32) (v6 : Int32) (H : Heap) (locs : List Loc) (ls : Array Slot), HS D A H0 [(h_0, oX6 h_0_of h_0_kept h_0_column h_0_size h_0_hidden h_0_cell h_0_home h_0_waste h_0_stock h_0_past h_0_start h_0_known h_0_sorted h_0_row h_0_best I_0), (h_0_of, eI cI 9 (I_0 1)), (h_0_kept, eI cI 9 (I_0 2)), (h_0_column, eJ cJ 5 (L_0 0)), (h_0_size, eI cI 5 (I_0 3)), (h_0_hidden, eI cI 5 (I_0 4)), (h_0_cell, eI cI 2 (I_0 5)), (h_0_home, eI cI 4 (I_0 6)), (h_0_waste, eI cI 8 (I_0 7)), (h_0_stock, eI cI 8 (I_0 8)), (h_0_past, eJ cJ 1616 (L_0 1)), (h_0_start, eJ cJ 8 (L_0 2)), (h_0_known, eJ cJ 3216 (L_0 3)), (h_0_sorted, eJ cJ 3216 (L_0 4)), (h_0_row, eI cI 16 (I_0 9)), (h_0_best, eJ cJ 8 (L_0 5))] H locs → lv_has ls 8 [(0, .ref h_0), (1, .int v1), (2, .int v2), (3, .int v3), (4, .int v4), (5, .int v5), (6, .int v6)] → F_X6_isRow_s37 I_0 L_0 K37 v1 v2 v3 v4 v5 v6 = some rv → W p l e ({ frames := 3, cells := 0, slots := 0, locals := 68 } : Room) s m args below meth c H locs 0 0 Q (F0 m 37 ls []) := by
    intro K37 hK37 v1 v2 v3 v4 v5 v6 H locs ls hS hl hF
    unfold F_X6_isRow_s37 at hF
    refine lv_iload hx hb dX6_isRow_37 (lv_at hl 6 rfl) ?_
    refine lv_iconst (v := (nI 1)) hx hb dX6_isRow_39 (by decide) ?_
    refine lv_iadd hx hb dX6_isRow_40 ?_
    refine lv_aload_n hx hb dX6_isRow_41 rfl (lv_at hl 0 rfl) ?_
    refine r_get hx hb hts inX6 hown hK hS 0 16 rfl rfl (by decide) q2 rfl dX6_isRow_42 ?_
    refine lv_iload_n hx hb dX6_isRow_45 rfl (lv_at hl 1 rfl) ?_
    replace hF := rdA_e hF
    obtain ⟨hi26, x25, ex25, hF⟩ := hF
    refine r_iald hx hb hK hS 4 rfl rfl hi26 dX6_isRow_46 ex25 ?_
    refine lv_icmp_ge (tgt := 83) hx hb dX6_isRow_47 (by decide) (fun c_27 => ?_) (fun c_27 => ?_)
    · replace hF := ifp hF c_27
      exact B83 v1 v2 v3 v4 v5 _ _ _ hS (lv_sub hl [0, 1, 2, 3, 4, 5] rfl) hF
    · replace hF := ifn hF c_27
      refine lv_iload hx hb dX6_isRow_50 (lv_at hl 5 rfl) ?_
      refine lv_if_eq (tgt := 83) hx hb dX6_isRow_52 (by decide) (fun c_28 => ?_) (fun c_28 => ?_)
      · replace hF := ifp hF c_28
        exact B83 v1 v2 v3 v4 v5 _ _ _ hS (lv_sub hl [0, 1, 2, 3, 4, 5] rfl) hF
      · replace hF := ifn hF c_28
        refine lv_aload_n hx hb dX6_isRow_55 rfl (lv_at hl 0 rfl) ?_
        refine lv_aload_n hx hb dX6_isRow_56 rfl (lv_at hl 0 rfl) ?_
        refine lv_iload_n hx hb dX6_isRow_57 rfl (lv_at hl 1 rfl) ?_
        refine lv_iload hx hb dX6_isRow_58 (lv_at hl 6 rfl) ?_
        refine lv_iconst (v := (nI 1)) hx hb dX6_isRow_60 (by decide) ?_
        refine lv_iadd hx hb dX6_isRow_61 ?_
        replace hF := cal1_e hF
        obtain ⟨x29, hc30, hF⟩ := hF
        refine kV_i (As := [.int v1, .int (v6 + (nI 1))]) (rest := [.ref h_0]) (wr := []) (w2 := [(h_0, oX6 h_0_of h_0_kept h_0_column h_0_size h_0_hidden h_0_cell h_0_home h_0_waste h_0_stock h_0_past h_0_start h_0_known h_0_sorted h_0_row h_0_best I_0), (h_0_of, eI cI 9 (I_0 1)), (h_0_kept, eI cI 9 (I_0 2)), (h_0_column, eJ cJ 5 (L_0 0)), (h_0_size, eI cI 5 (I_0 3)), (h_0_hidden, eI cI 5 (I_0 4)), (h_0_cell, eI cI 2 (I_0 5)), (h_0_home, eI cI 4 (I_0 6)), (h_0_waste, eI cI 8 (I_0 7)), (h_0_stock, eI cI 8 (I_0 8)), (h_0_past, eJ cJ 1616 (L_0 1)), (h_0_start, eJ cJ 8 (L_0 2)), (h_0_known, eJ cJ 3216 (L_0 3)), (h_0_sorted, eJ cJ 3216 (L_0 4)), (h_0_row, eI cI 16 (I_0 9)), (h_0_best, eJ cJ 8 (L_0 5))]) hCF hK (c_X6_cardAt l D cI cJ h_0 h_0_of h_0_kept h_0_column h_0_size h_0_hidden h_0_cell h_0_home h_0_waste h_0_stock h_0_past h_0_start h_0_known h_0_sorted h_0_row h_0_best I_0 L_0 v1 (v6 + (nI 1)) x29 hc30) (cwV 2 hts (TBL_V mw_461 mw_462 mw_463 mw_5 mw_464) rfl rfl rfl pmX6_cardAt ⟨Nat.le_of_ble_eq_true rfl, Nat.le_of_ble_eq_true rfl⟩) hS hA [0, 1, 2, 3, 4, 5, 6, 7, 8, 9, 10, 11, 12, 13, 14, 15] [] rfl rfl rfl rfl (by decide) rfl rfl rfl hl.1 rfl (Nat.le_of_ble_eq_true rfl) ⟨Nat.zero_le _, Nat.zero_le _⟩ dX6_isRow_62 rfl (fun H locs hS => ?_)
        refine lv_aload_n hx hb dX6_isRow_65 rfl (lv_at hl 0 rfl) ?_
        refine lv_iload_n hx hb dX6_isRow_66 rfl (lv_at hl 1 rfl) ?_
        refine lv_iload hx hb dX6_isRow_67 (lv_at hl 6 rfl) ?_
        replace hF := cal1_e hF
        obtain ⟨x31, hc32, hF⟩ := hF
        refine kV_i (As := [.int v1, .int v6]) (rest := [.int x29, .ref h_0]) (wr := []) (w2 := [(h_0, oX6 h_0_of h_0_kept h_0_column h_0_size h_0_hidden h_0_cell h_0_home h_0_waste h_0_stock h_0_past h_0_start h_0_known h_0_sorted h_0_row h_0_best I_0), (h_0_of, eI cI 9 (I_0 1)), (h_0_kept, eI cI 9 (I_0 2)), (h_0_column, eJ cJ 5 (L_0 0)), (h_0_size, eI cI 5 (I_0 3)), (h_0_hidden, eI cI 5 (I_0 4)), (h_0_cell, eI cI 2 (I_0 5)), (h_0_home, eI cI 4 (I_0 6)), (h_0_waste, eI cI 8 (I_0 7)), (h_0_stock, eI cI 8 (I_0 8)), (h_0_past, eJ cJ 1616 (L_0 1)), (h_0_start, eJ cJ 8 (L_0 2)), (h_0_known, eJ cJ 3216 (L_0 3)), (h_0_sorted, eJ cJ 3216 (L_0 4)), (h_0_row, eI cI 16 (I_0 9)), (h_0_best, eJ cJ 8 (L_0 5))]) hCF hK (c_X6_cardAt l D cI cJ h_0 h_0_of h_0_kept h_0_column h_0_size h_0_hidden h_0_cell h_0_home h_0_waste h_0_stock h_0_past h_0_start h_0_known h_0_sorted h_0_row h_0_best I_0 L_0 v1 v6 x31 hc32) (cwV 2 hts (TBL_V mw_461 mw_462 mw_463 mw_5 mw_464) rfl rfl rfl pmX6_cardAt ⟨Nat.le_of_ble_eq_true rfl, Nat.le_of_ble_eq_true rfl⟩) hS hA [0, 1, 2, 3, 4, 5, 6, 7, 8, 9, 10, 11, 12, 13, 14, 15] [] rfl rfl rfl rfl (by decide) rfl rfl rfl hl.1 rfl (Nat.le_of_ble_eq_true rfl) ⟨Nat.zero_le _, Nat.zero_le _⟩ dX6_isRow_69 rfl (fun H locs hS => ?_)
        replace hF := cal1_e hF
        obtain ⟨x33, hc34, hF⟩ := hF
        refine kV_i (As := [.int x29, .int x31]) (rest := []) (wr := []) (w2 := [(h_0, oX6 h_0_of h_0_kept h_0_column h_0_size h_0_hidden h_0_cell h_0_home h_0_waste h_0_stock h_0_past h_0_start h_0_known h_0_sorted h_0_row h_0_best I_0), (h_0_of, eI cI 9 (I_0 1)), (h_0_kept, eI cI 9 (I_0 2)), (h_0_column, eJ cJ 5 (L_0 0)), (h_0_size, eI cI 5 (I_0 3)), (h_0_hidden, eI cI 5 (I_0 4)), (h_0_cell, eI cI 2 (I_0 5)), (h_0_home, eI cI 4 (I_0 6)), (h_0_waste, eI cI 8 (I_0 7)), (h_0_stock, eI cI 8 (I_0 8)), (h_0_past, eJ cJ 1616 (L_0 1)), (h_0_start, eJ cJ 8 (L_0 2)), (h_0_known, eJ cJ 3216 (L_0 3)), (h_0_sorted, eJ cJ 3216 (L_0 4)), (h_0_row, eI cI 16 (I_0 9)), (h_0_best, eJ cJ 8 (L_0 5))]) hCF hK (c_X6_fits l D cI cJ h_0 h_0_of h_0_kept h_0_column h_0_size h_0_hidden h_0_cell h_0_home h_0_waste h_0_stock h_0_past h_0_start h_0_known h_0_sorted h_0_row h_0_best I_0 L_0 x29 x31 x33 hc34) (cwV 2 hts (TBL_V mw_465 mw_466 mw_467 mw_5 mw_468) rfl rfl rfl pmX6_fits ⟨Nat.le_of_ble_eq_true rfl, Nat.le_of_ble_eq_true rfl⟩) hS hA [0, 1, 2, 3, 4, 5, 6, 7, 8, 9, 10, 11, 12, 13, 14, 15] [] rfl rfl rfl rfl (by decide) rfl rfl rfl hl.1 rfl (Nat.le_of_ble_eq_true rfl) ⟨Nat.zero_le _, Nat.zero_le _⟩ dX6_isRow_72 rfl (fun H locs hS => ?_)
        refine lv_istore (lv' := [(5, .int x33), (0, .ref h_0), (1, .int v1), (2, .int v2), (3, .int v3), (4, .int v4), (6, .int v6)]) hx hb dX6_isRow_75 hl (by decide) rfl (fun ls hl => ?_)
        refine lv_iinc (v := v6 + (nI 1)) (lv' := [(6, .int (v6 + (nI 1))), (5, .int x33), (0, .ref h_0), (1, .int v1), (2, .int v2), (3, .int v3), (4, .int v4)]) hx hb dX6_isRow_77 hl (k := 6) rfl rfl (by decide) rfl (fun ls hl => ?_)
        refine lv_goto (tgt := 37) hx hb dX6_isRow_80 (by decide) ?_
        exact hK37 v1 v2 v3 v4 x33 (v6 + (nI 1)) _ _ _ hS (lv_sub hl [2, 3, 4, 5, 6, 1, 0] rfl) hF
  have L37 : ∀  (n : Nat) (v1 : Int32) (v2 : Int32) (v3 : Int32) (v4 : Int32) (v5 : Int32) (v6 : Int32) (H : Heap) (locs : List Loc) (ls : Array Slot), HS D A H0 [(h_0, oX6 h_0_of h_0_kept h_0_column h_0_size h_0_hidden h_0_cell h_0_home h_0_waste h_0_stock h_0_past h_0_start h_0_known h_0_sorted h_0_row h_0_best I_0), (h_0_of, eI cI 9 (I_0 1)), (h_0_kept, eI cI 9 (I_0 2)), (h_0_column, eJ cJ 5 (L_0 0)), (h_0_size, eI cI 5 (I_0 3)), (h_0_hidden, eI cI 5 (I_0 4)), (h_0_cell, eI cI 2 (I_0 5)), (h_0_home, eI cI 4 (I_0 6)), (h_0_waste, eI cI 8 (I_0 7)), (h_0_stock, eI cI 8 (I_0 8)), (h_0_past, eJ cJ 1616 (L_0 1)), (h_0_start, eJ cJ 8 (L_0 2)), (h_0_known, eJ cJ 3216 (L_0 3)), (h_0_sorted, eJ cJ 3216 (L_0 4)), (h_0_row, eI cI 16 (I_0 9)), (h_0_best, eJ cJ 8 (L_0 5))] H locs → lv_has ls 8 [(0, .ref h_0), (1, .int v1), (2, .int v2), (3, .int v3), (4, .int v4), (5, .int v5), (6, .int v6)] → F_X6_isRow_L37 I_0 L_0  n v1 v2 v3 v4 v5 v6 = some rv → W p l e ({ frames := 3, cells := 0, slots := 0, locals := 68 } : Room) s m args below meth c H locs 0 0 Q (F0 m 37 ls []) := by
    intro  n
    induction n with
    | zero => intro v1 v2 v3 v4 v5 v6 H locs ls hS hl hF; exact nomatch (show (none : Option (Int32)) = some _ from hF)
    | succ n ih => intro v1 v2 v3 v4 v5 v6 H locs ls hS hl hF; exact S37  _ ih v1 v2 v3 v4 v5 v6 H locs ls hS hl hF
  unfold F_X6_isRow at hF
  refine lv_aload_n hx hb dX6_isRow_0 rfl (lv_at hl 0 rfl) ?_
  refine r_get hx hb hts inX6 hown hK hS 0 16 rfl rfl (by decide) q2 rfl dX6_isRow_1 ?_
  refine lv_iload_n hx hb dX6_isRow_4 rfl (lv_at hl 1 rfl) ?_
  replace hF := rdA_e hF
  obtain ⟨hi36, x35, ex35, hF⟩ := hF
  refine r_iald hx hb hK hS 4 rfl rfl hi36 dX6_isRow_5 ex35 ?_
  refine lv_iload_n hx hb dX6_isRow_6 rfl (lv_at hl 3 rfl) ?_
  refine lv_isub hx hb dX6_isRow_7 ?_
  refine lv_istore (lv' := [(4, .int (x35 - v3)), (0, .ref h_0), (1, .int v1), (2, .int v2), (3, .int v3)]) hx hb dX6_isRow_8 hl (by decide) rfl (fun ls hl => ?_)
  refine lv_iload hx hb dX6_isRow_10 (lv_at hl 0 rfl) ?_
  refine lv_aload_n hx hb dX6_isRow_12 rfl (lv_at hl 1 rfl) ?_
  refine r_get hx hb hts inX6 hown hK hS 0 17 rfl rfl (by decide) q4 rfl dX6_isRow_13 ?_
  refine lv_iload_n hx hb dX6_isRow_16 rfl (lv_at hl 2 rfl) ?_
  replace hF := rdA_e hF
  obtain ⟨hi38, x37, ex37, hF⟩ := hF
  refine r_iald hx hb hK hS 5 rfl rfl hi38 dX6_isRow_17 ex37 ?_
  refine lv_icmp_lt (tgt := 30) hx hb dX6_isRow_18 (by decide) (fun c_39 => ?_) (fun c_39 => ?_)
  · replace hF := ifp hF c_39
    refine lv_iconst (v := (nI 0)) hx hb dX6_isRow_30 (by decide) ?_
    refine lv_istore (lv' := [(5, .int (nI 0)), (4, .int (x35 - v3)), (0, .ref h_0), (1, .int v1), (2, .int v2), (3, .int v3)]) hx hb dX6_isRow_31 hl (by decide) rfl (fun ls hl => ?_)
    refine lv_iload hx hb dX6_isRow_33 (lv_at hl 1 rfl) ?_
    refine lv_istore (lv' := [(6, .int (x35 - v3)), (5, .int (nI 0)), (4, .int (x35 - v3)), (0, .ref h_0), (1, .int v1), (2, .int v2), (3, .int v3)]) hx hb dX6_isRow_35 hl (by decide) rfl (fun ls hl => ?_)
    exact L37 FU v1 v2 v3 (x35 - v3) (nI 0) (x35 - v3) _ _ _ hS (lv_sub hl [3, 4, 5, 6, 2, 1, 0] rfl) hF
  · replace hF := ifn hF c_39
    refine lv_iload hx hb dX6_isRow_21 (lv_at hl 0 rfl) ?_
    refine lv_if_lt (tgt := 30) hx hb dX6_isRow_23 (by decide) (fun c_40 => ?_) (fun c_40 => ?_)
    · replace hF := ifp hF c_40
      refine lv_iconst (v := (nI 0)) hx hb dX6_isRow_30 (by decide) ?_
      refine lv_istore (lv' := [(5, .int (nI 0)), (4, .int (x35 - v3)), (0, .ref h_0), (1, .int v1), (2, .int v2), (3, .int v3)]) hx hb dX6_isRow_31 hl (by decide) rfl (fun ls hl => ?_)
      refine lv_iload hx hb dX6_isRow_33 (lv_at hl 1 rfl) ?_
      refine lv_istore (lv' := [(6, .int (x35 - v3)), (5, .int (nI 0)), (4, .int (x35 - v3)), (0, .ref h_0), (1, .int v1), (2, .int v2), (3, .int v3)]) hx hb dX6_isRow_35 hl (by decide) rfl (fun ls hl => ?_)
      exact L37 FU v1 v2 v3 (x35 - v3) (nI 0) (x35 - v3) _ _ _ hS (lv_sub hl [3, 4, 5, 6, 2, 1, 0] rfl) hF
    · replace hF := ifn hF c_40
      refine lv_iconst (v := (nI 1)) hx hb dX6_isRow_26 (by decide) ?_
      refine lv_goto (tgt := 31) hx hb dX6_isRow_27 (by decide) ?_
      refine lv_istore (lv' := [(5, .int (nI 1)), (4, .int (x35 - v3)), (0, .ref h_0), (1, .int v1), (2, .int v2), (3, .int v3)]) hx hb dX6_isRow_31 hl (by decide) rfl (fun ls hl => ?_)
      refine lv_iload hx hb dX6_isRow_33 (lv_at hl 1 rfl) ?_
      refine lv_istore (lv' := [(6, .int (x35 - v3)), (5, .int (nI 1)), (4, .int (x35 - v3)), (0, .ref h_0), (1, .int v1), (2, .int v2), (3, .int v3)]) hx hb dX6_isRow_35 hl (by decide) rfl (fun ls hl => ?_)
      exact L37 FU v1 v2 v3 (x35 - v3) (nI 1) (x35 - v3) _ _ _ hS (lv_sub hl [3, 4, 5, 6, 2, 1, 0] rfl) hF
set_option maxHeartbeats 4000000 in
set_option maxRecDepth 100000 in
theorem c_X6_isMove (l : Launch) (D : va_G) (cI cJ : ClassId) (h_0 h_0_of h_0_kept h_0_column h_0_size h_0_hidden h_0_cell h_0_home h_0_waste h_0_stock h_0_past h_0_start h_0_known h_0_sorted h_0_row h_0_best : Nat) (I_0 : Nat → Nat → Int32) (L_0 : Nat → Nat → Int64) (v1 : Int32) (v2 : Int32) (v3 : Int32) (rv : Int32) (hF : F_X6_isMove I_0 L_0 v1 v2 v3 = some rv) : CtI l D [(cI, .int), (cJ, .long)] yX6_isMove wtX6_isMove ({ frames := 4, cells := 0, slots := 0, locals := 95 } : Room) [.ref h_0, .int v1, .int v2, .int v3] [(h_0, oX6 h_0_of h_0_kept h_0_column h_0_size h_0_hidden h_0_cell h_0_home h_0_waste h_0_stock h_0_past h_0_start h_0_known h_0_sorted h_0_row h_0_best I_0), (h_0_of, eI cI 9 (I_0 1)), (h_0_kept, eI cI 9 (I_0 2)), (h_0_column, eJ cJ 5 (L_0 0)), (h_0_size, eI cI 5 (I_0 3)), (h_0_hidden, eI cI 5 (I_0 4)), (h_0_cell, eI cI 2 (I_0 5)), (h_0_home, eI cI 4 (I_0 6)), (h_0_waste, eI cI 8 (I_0 7)), (h_0_stock, eI cI 8 (I_0 8)), (h_0_past, eJ cJ 1616 (L_0 1)), (h_0_start, eJ cJ 8 (L_0 2)), (h_0_known, eJ cJ 3216 (L_0 3)), (h_0_sorted, eJ cJ 3216 (L_0 4)), (h_0_row, eI cI 16 (I_0 9)), (h_0_best, eJ cJ 8 (L_0 5))] [(h_0, oX6 h_0_of h_0_kept h_0_column h_0_size h_0_hidden h_0_cell h_0_home h_0_waste h_0_stock h_0_past h_0_start h_0_known h_0_sorted h_0_row h_0_best I_0), (h_0_of, eI cI 9 (I_0 1)), (h_0_kept, eI cI 9 (I_0 2)), (h_0_column, eJ cJ 5 (L_0 0)), (h_0_size, eI cI 5 (I_0 3)), (h_0_hidden, eI cI 5 (I_0 4)), (h_0_cell, eI cI 2 (I_0 5)), (h_0_home, eI cI 4 (I_0 6)), (h_0_waste, eI cI 8 (I_0 7)), (h_0_stock, eI cI 8 (I_0 8)), (h_0_past, eJ cJ 1616 (L_0 1)), (h_0_start, eJ cJ 8 (L_0 2)), (h_0_known, eJ cJ 3216 (L_0 3)), (h_0_sorted, eJ cJ 3216 (L_0 4)), (h_0_row, eI cI 16 (I_0 9)), (h_0_best, eJ cJ 8 (L_0 5))] rv := by
  refine CtZ.of (cc := cX6_isMove) (maxL := 5) (by decide) rfl (Nat.le_of_ble_eq_true rfl) ?_
  intro p e s m args below meth c A H0 Q ls X hS hl kret
  have hCF := X.1
  obtain ⟨⟨hx, hb, hml, hown, hts⟩, hK, hA⟩ := X
  have hl : lv_has ls 5 [(0, .ref h_0), (1, .int v1), (2, .int v2), (3, .int v3)] := hl
  have q0 := hts (.fieldLink RX6 25 "PatienceryModel" "of" "[I") (List.mem_cons_of_mem _ mw_161)
  have inX6 : ∀ w ∈ u_ws RX6 TX6 32, w ∈ wtX6_isMove := fun w h => List.mem_cons_of_mem _ (inlX6 w h)
  have q2 := hts (.fieldLink RX6 42 "PatienceryModel" "cell" "[I") (List.mem_cons_of_mem _ mw_166)
  have q3 := hts (.fieldLink RX6 45 "PatienceryModel" "home" "[I") (List.mem_cons_of_mem _ mw_167)
  have q4 := hts (.fieldLink RX6 120 "PatienceryModel" "left" "I") (List.mem_cons_of_mem _ mw_190)
  have q5 := hts (.fieldLink RX6 117 "PatienceryModel" "wasted" "I") (List.mem_cons_of_mem _ mw_195)
  have q6 := hts (.fieldLink RX6 123 "PatienceryModel" "turned" "I") (List.mem_cons_of_mem _ mw_196)
  have B157 : ∀ (v2 : Int32) (H : Heap) (locs : List Loc) (ls : Array Slot), HS D A H0 [(h_0, oX6 h_0_of h_0_kept h_0_column h_0_size h_0_hidden h_0_cell h_0_home h_0_waste h_0_stock h_0_past h_0_start h_0_known h_0_sorted h_0_row h_0_best I_0), (h_0_of, eI cI 9 (I_0 1)), (h_0_kept, eI cI 9 (I_0 2)), (h_0_column, eJ cJ 5 (L_0 0)), (h_0_size, eI cI 5 (I_0 3)), (h_0_hidden, eI cI 5 (I_0 4)), (h_0_cell, eI cI 2 (I_0 5)), (h_0_home, eI cI 4 (I_0 6)), (h_0_waste, eI cI 8 (I_0 7)), (h_0_stock, eI cI 8 (I_0 8)), (h_0_past, eJ cJ 1616 (L_0 1)), (h_0_start, eJ cJ 8 (L_0 2)), (h_0_known, eJ cJ 3216 (L_0 3)), (h_0_sorted, eJ cJ 3216 (L_0 4)), (h_0_row, eI cI 16 (I_0 9)), (h_0_best, eJ cJ 8 (L_0 5))] H locs → lv_has ls 5 [(0, .ref h_0), (2, .int v2)] → F_X6_isMove_b157 I_0 L_0  v2 = some rv → W p l e ({ frames := 4, cells := 0, slots := 0, locals := 95 } : Room) s m args below meth c H locs 0 0 Q (F0 m 157 ls []) := by
    intro v2 H locs ls hS hl hF
    unfold F_X6_isMove_b157 at hF
    refine lv_iload_n hx hb dX6_isMove_157 rfl (lv_at hl 1 rfl) ?_
    refine lv_iconst (v := (nI 5)) hx hb dX6_isMove_158 (by decide) ?_
    refine lv_isub hx hb dX6_isMove_159 ?_
    refine lv_aload_n hx hb dX6_isMove_160 rfl (lv_at hl 0 rfl) ?_
    refine r_get hx hb hts inX6 hown hK hS 0 10 rfl rfl (by decide) q0 rfl dX6_isMove_161 ?_
    refine lv_iconst (v := (nI 3)) hx hb dX6_isMove_164 (by decide) ?_
    replace hF := rdA_e hF
    obtain ⟨hi2, x1, ex1, hF⟩ := hF
    refine r_iald hx hb hK hS 1 rfl rfl hi2 dX6_isMove_165 ex1 ?_
    refine lv_icmp_ge (tgt := 185) hx hb dX6_isMove_166 (by decide) (fun c_3 => ?_) (fun c_3 => ?_)
    · replace hF := ifp hF c_3
      refine lv_iconst (v := (nI 0)) hx hb dX6_isMove_185 (by decide) ?_
      replace hF := zb_e hF
      obtain ⟨h01_4, hF⟩ := hF
      have e9_0 := Option.some.inj hF
      subst e9_0
      exact kret _ _ _ _ h01_4 hS dX6_isMove_186
    · replace hF := ifn hF c_3
      refine lv_aload_n hx hb dX6_isMove_169 rfl (lv_at hl 0 rfl) ?_
      refine r_get hx hb hts inX6 hown hK hS 0 18 rfl rfl (by decide) q2 rfl dX6_isMove_170 ?_
      refine lv_iload_n hx hb dX6_isMove_173 rfl (lv_at hl 1 rfl) ?_
      refine lv_iconst (v := (nI 5)) hx hb dX6_isMove_174 (by decide) ?_
      refine lv_isub hx hb dX6_isMove_175 ?_
      replace hF := rdA_e hF
      obtain ⟨hi6, x5, ex5, hF⟩ := hF
      refine r_iald hx hb hK hS 6 rfl rfl hi6 dX6_isMove_176 ex5 ?_
      refine lv_iconst (v := (-1)) hx hb dX6_isMove_177 (by decide) ?_
      refine lv_icmp_ne (tgt := 185) hx hb dX6_isMove_178 (by decide) (fun c_7 => ?_) (fun c_7 => ?_)
      · replace hF := ifn hF c_7
        refine lv_iconst (v := (nI 0)) hx hb dX6_isMove_185 (by decide) ?_
        replace hF := zb_e hF
        obtain ⟨h01_8, hF⟩ := hF
        have e9_0 := Option.some.inj hF
        subst e9_0
        exact kret _ _ _ _ h01_8 hS dX6_isMove_186
      · replace hF := ifp hF c_7
        refine lv_iconst (v := (nI 1)) hx hb dX6_isMove_181 (by decide) ?_
        refine lv_goto (tgt := 186) hx hb dX6_isMove_182 (by decide) ?_
        replace hF := zb_e hF
        obtain ⟨h01_9, hF⟩ := hF
        have e9_0 := Option.some.inj hF
        subst e9_0
        exact kret _ _ _ _ h01_9 hS dX6_isMove_186
  have B82 : ∀ (v1 : Int32) (v2 : Int32) (v3 : Int32) (H : Heap) (locs : List Loc) (ls : Array Slot), HS D A H0 [(h_0, oX6 h_0_of h_0_kept h_0_column h_0_size h_0_hidden h_0_cell h_0_home h_0_waste h_0_stock h_0_past h_0_start h_0_known h_0_sorted h_0_row h_0_best I_0), (h_0_of, eI cI 9 (I_0 1)), (h_0_kept, eI cI 9 (I_0 2)), (h_0_column, eJ cJ 5 (L_0 0)), (h_0_size, eI cI 5 (I_0 3)), (h_0_hidden, eI cI 5 (I_0 4)), (h_0_cell, eI cI 2 (I_0 5)), (h_0_home, eI cI 4 (I_0 6)), (h_0_waste, eI cI 8 (I_0 7)), (h_0_stock, eI cI 8 (I_0 8)), (h_0_past, eJ cJ 1616 (L_0 1)), (h_0_start, eJ cJ 8 (L_0 2)), (h_0_known, eJ cJ 3216 (L_0 3)), (h_0_sorted, eJ cJ 3216 (L_0 4)), (h_0_row, eI cI 16 (I_0 9)), (h_0_best, eJ cJ 8 (L_0 5))] H locs → lv_has ls 5 [(0, .ref h_0), (1, .int v1), (2, .int v2), (3, .int v3)] → F_X6_isMove_b82 I_0 L_0  v1 v2 v3 = some rv → W p l e ({ frames := 4, cells := 0, slots := 0, locals := 95 } : Room) s m args below meth c H locs 0 0 Q (F0 m 82 ls []) := by
    intro v1 v2 v3 H locs ls hS hl hF
    unfold F_X6_isMove_b82 at hF
    refine lv_aload_n hx hb dX6_isMove_82 rfl (lv_at hl 0 rfl) ?_
    refine lv_iload_n hx hb dX6_isMove_83 rfl (lv_at hl 1 rfl) ?_
    replace hF := cal1_e hF
    obtain ⟨x10, hc11, hF⟩ := hF
    refine kV_i (As := [.int v1]) (rest := []) (wr := []) (w2 := [(h_0, oX6 h_0_of h_0_kept h_0_column h_0_size h_0_hidden h_0_cell h_0_home h_0_waste h_0_stock h_0_past h_0_start h_0_known h_0_sorted h_0_row h_0_best I_0), (h_0_of, eI cI 9 (I_0 1)), (h_0_kept, eI cI 9 (I_0 2)), (h_0_column, eJ cJ 5 (L_0 0)), (h_0_size, eI cI 5 (I_0 3)), (h_0_hidden, eI cI 5 (I_0 4)), (h_0_cell, eI cI 2 (I_0 5)), (h_0_home, eI cI 4 (I_0 6)), (h_0_waste, eI cI 8 (I_0 7)), (h_0_stock, eI cI 8 (I_0 8)), (h_0_past, eJ cJ 1616 (L_0 1)), (h_0_start, eJ cJ 8 (L_0 2)), (h_0_known, eJ cJ 3216 (L_0 3)), (h_0_sorted, eJ cJ 3216 (L_0 4)), (h_0_row, eI cI 16 (I_0 9)), (h_0_best, eJ cJ 8 (L_0 5))]) hCF hK (c_X6_lastOf l D cI cJ h_0 h_0_of h_0_kept h_0_column h_0_size h_0_hidden h_0_cell h_0_home h_0_waste h_0_stock h_0_past h_0_start h_0_known h_0_sorted h_0_row h_0_best I_0 L_0 v1 x10 hc11) (cwV 1 hts (TBL_V mw_481 mw_482 mw_483 mw_5 mw_484) rfl rfl rfl pmX6_lastOf ⟨Nat.le_of_ble_eq_true rfl, Nat.le_of_ble_eq_true rfl⟩) hS hA [0, 1, 2, 3, 4, 5, 6, 7, 8, 9, 10, 11, 12, 13, 14, 15] [] rfl rfl rfl rfl (by decide) rfl rfl rfl hl.1 rfl (Nat.le_of_ble_eq_true rfl) ⟨Nat.zero_le _, Nat.zero_le _⟩ dX6_isMove_84 rfl (fun H locs hS => ?_)
    refine lv_istore (lv' := [(4, .int x10), (0, .ref h_0), (1, .int v1), (2, .int v2), (3, .int v3)]) hx hb dX6_isMove_87 hl (by decide) rfl (fun ls hl => ?_)
    refine lv_iload_n hx hb dX6_isMove_89 rfl (lv_at hl 4 rfl) ?_
    refine lv_iconst (v := (nI 1)) hx hb dX6_isMove_90 (by decide) ?_
    refine lv_icmp_ne (tgt := 100) hx hb dX6_isMove_91 (by decide) (fun c_12 => ?_) (fun c_12 => ?_)
    · replace hF := ifn hF c_12
      refine lv_iconst (v := (nI 0)) hx hb dX6_isMove_100 (by decide) ?_
      replace hF := zb_e hF
      obtain ⟨h01_13, hF⟩ := hF
      have e9_0 := Option.some.inj hF
      subst e9_0
      exact kret _ _ _ _ h01_13 hS dX6_isMove_101
    · replace hF := ifp hF c_12
      refine lv_iload hx hb dX6_isMove_94 (lv_at hl 0 rfl) ?_
      refine lv_iconst (v := (-1)) hx hb dX6_isMove_96 (by decide) ?_
      refine lv_icmp_ne (tgt := 102) hx hb dX6_isMove_97 (by decide) (fun c_14 => ?_) (fun c_14 => ?_)
      · replace hF := ifn hF c_14
        refine lv_iload_n hx hb dX6_isMove_102 rfl (lv_at hl 3 rfl) ?_
        refine lv_bipush (v := (nI 8)) hx hb dX6_isMove_103 (by decide) ?_
        refine lv_icmp_ne (tgt := 136) hx hb dX6_isMove_105 (by decide) (fun c_15 => ?_) (fun c_15 => ?_)
        · replace hF := ifn hF c_15
          refine lv_iload_n hx hb dX6_isMove_136 rfl (lv_at hl 3 rfl) ?_
          refine lv_iconst (v := (nI 5)) hx hb dX6_isMove_137 (by decide) ?_
          refine lv_bipush (v := (nI 6)) hx hb dX6_isMove_138 (by decide) ?_
          replace hF := cal1_e hF
          obtain ⟨x16, hc17, hF⟩ := hF
          refine kS_i (As := [.int v2, .int (nI 5), .int (nI 6)]) (rest := []) (wr := [(h_0, oX6 h_0_of h_0_kept h_0_column h_0_size h_0_hidden h_0_cell h_0_home h_0_waste h_0_stock h_0_past h_0_start h_0_known h_0_sorted h_0_row h_0_best I_0), (h_0_of, eI cI 9 (I_0 1)), (h_0_kept, eI cI 9 (I_0 2)), (h_0_column, eJ cJ 5 (L_0 0)), (h_0_size, eI cI 5 (I_0 3)), (h_0_hidden, eI cI 5 (I_0 4)), (h_0_cell, eI cI 2 (I_0 5)), (h_0_home, eI cI 4 (I_0 6)), (h_0_waste, eI cI 8 (I_0 7)), (h_0_stock, eI cI 8 (I_0 8)), (h_0_past, eJ cJ 1616 (L_0 1)), (h_0_start, eJ cJ 8 (L_0 2)), (h_0_known, eJ cJ 3216 (L_0 3)), (h_0_sorted, eJ cJ 3216 (L_0 4)), (h_0_row, eI cI 16 (I_0 9)), (h_0_best, eJ cJ 8 (L_0 5))]) (w2 := [(h_0, oX6 h_0_of h_0_kept h_0_column h_0_size h_0_hidden h_0_cell h_0_home h_0_waste h_0_stock h_0_past h_0_start h_0_known h_0_sorted h_0_row h_0_best I_0), (h_0_of, eI cI 9 (I_0 1)), (h_0_kept, eI cI 9 (I_0 2)), (h_0_column, eJ cJ 5 (L_0 0)), (h_0_size, eI cI 5 (I_0 3)), (h_0_hidden, eI cI 5 (I_0 4)), (h_0_cell, eI cI 2 (I_0 5)), (h_0_home, eI cI 4 (I_0 6)), (h_0_waste, eI cI 8 (I_0 7)), (h_0_stock, eI cI 8 (I_0 8)), (h_0_past, eJ cJ 1616 (L_0 1)), (h_0_start, eJ cJ 8 (L_0 2)), (h_0_known, eJ cJ 3216 (L_0 3)), (h_0_sorted, eJ cJ 3216 (L_0 4)), (h_0_row, eI cI 16 (I_0 9)), (h_0_best, eJ cJ 8 (L_0 5))]) hCF hK (c_X6_in l D cI cJ v2 (nI 5) (nI 6) x16 hc17) (va_cwS 3 hts (TBL_S mw_234 mw_235 mw_5 mw_236) rfl rfl rfl pmX6_in.2 ⟨Nat.le_of_ble_eq_true rfl, Nat.le_of_ble_eq_true rfl⟩) hS hA [] [0, 1, 2, 3, 4, 5, 6, 7, 8, 9, 10, 11, 12, 13, 14, 15] rfl rfl rfl rfl (by decide) rfl hl.1 rfl (Nat.le_of_ble_eq_true rfl) ⟨Nat.zero_le _, Nat.zero_le _⟩ dX6_isMove_140 rfl (fun H locs hS => ?_)
          refine lv_if_eq (tgt := 187) hx hb dX6_isMove_143 (by decide) (fun c_18 => ?_) (fun c_18 => ?_)
          · replace hF := ifp hF c_18
            refine lv_iload_n hx hb dX6_isMove_187 rfl (lv_at hl 3 rfl) ?_
            refine lv_iconst (v := (nI 5)) hx hb dX6_isMove_188 (by decide) ?_
            refine lv_icmp_ge (tgt := 206) hx hb dX6_isMove_189 (by decide) (fun c_19 => ?_) (fun c_19 => ?_)
            · replace hF := ifp hF c_19
              refine lv_iconst (v := (nI 0)) hx hb dX6_isMove_206 (by decide) ?_
              replace hF := zb_e hF
              obtain ⟨h01_20, hF⟩ := hF
              have e9_0 := Option.some.inj hF
              subst e9_0
              exact kret _ _ _ _ h01_20 hS dX6_isMove_207
            · replace hF := ifn hF c_19
              refine lv_aload_n hx hb dX6_isMove_192 rfl (lv_at hl 1 rfl) ?_
              refine lv_iload hx hb dX6_isMove_193 (lv_at hl 0 rfl) ?_
              refine lv_iload_n hx hb dX6_isMove_195 rfl (lv_at hl 3 rfl) ?_
              replace hF := cal1_e hF
              obtain ⟨x21, hc22, hF⟩ := hF
              refine kV_i (As := [.int x10, .int v2]) (rest := []) (wr := []) (w2 := [(h_0, oX6 h_0_of h_0_kept h_0_column h_0_size h_0_hidden h_0_cell h_0_home h_0_waste h_0_stock h_0_past h_0_start h_0_known h_0_sorted h_0_row h_0_best I_0), (h_0_of, eI cI 9 (I_0 1)), (h_0_kept, eI cI 9 (I_0 2)), (h_0_column, eJ cJ 5 (L_0 0)), (h_0_size, eI cI 5 (I_0 3)), (h_0_hidden, eI cI 5 (I_0 4)), (h_0_cell, eI cI 2 (I_0 5)), (h_0_home, eI cI 4 (I_0 6)), (h_0_waste, eI cI 8 (I_0 7)), (h_0_stock, eI cI 8 (I_0 8)), (h_0_past, eJ cJ 1616 (L_0 1)), (h_0_start, eJ cJ 8 (L_0 2)), (h_0_known, eJ cJ 3216 (L_0 3)), (h_0_sorted, eJ cJ 3216 (L_0 4)), (h_0_row, eI cI 16 (I_0 9)), (h_0_best, eJ cJ 8 (L_0 5))]) hCF hK (c_X6_comesTo l D cI cJ h_0 h_0_of h_0_kept h_0_column h_0_size h_0_hidden h_0_cell h_0_home h_0_waste h_0_stock h_0_past h_0_start h_0_known h_0_sorted h_0_row h_0_best I_0 L_0 x10 v2 x21 hc22) (cwV 2 hts (TBL_V mw_477 mw_478 mw_479 mw_5 mw_480) rfl rfl rfl pmX6_comesTo ⟨Nat.le_of_ble_eq_true rfl, Nat.le_of_ble_eq_true rfl⟩) hS hA [0, 1, 2, 3, 4, 5, 6, 7, 8, 9, 10, 11, 12, 13, 14, 15] [] rfl rfl rfl rfl (by decide) rfl rfl rfl hl.1 rfl (Nat.le_of_ble_eq_true rfl) ⟨Nat.zero_le _, Nat.zero_le _⟩ dX6_isMove_196 rfl (fun H locs hS => ?_)
              refine lv_if_eq (tgt := 206) hx hb dX6_isMove_199 (by decide) (fun c_23 => ?_) (fun c_23 => ?_)
              · replace hF := ifp hF c_23
                refine lv_iconst (v := (nI 0)) hx hb dX6_isMove_206 (by decide) ?_
                replace hF := zb_e hF
                obtain ⟨h01_24, hF⟩ := hF
                have e9_0 := Option.some.inj hF
                subst e9_0
                exact kret _ _ _ _ h01_24 hS dX6_isMove_207
              · replace hF := ifn hF c_23
                refine lv_iconst (v := (nI 1)) hx hb dX6_isMove_202 (by decide) ?_
                refine lv_goto (tgt := 207) hx hb dX6_isMove_203 (by decide) ?_
                replace hF := zb_e hF
                obtain ⟨h01_25, hF⟩ := hF
                have e9_0 := Option.some.inj hF
                subst e9_0
                exact kret _ _ _ _ h01_25 hS dX6_isMove_207
          · replace hF := ifn hF c_18
            refine lv_iload_n hx hb dX6_isMove_146 rfl (lv_at hl 2 rfl) ?_
            refine lv_iconst (v := (nI 5)) hx hb dX6_isMove_147 (by decide) ?_
            refine lv_icmp_lt (tgt := 157) hx hb dX6_isMove_148 (by decide) (fun c_26 => ?_) (fun c_26 => ?_)
            · replace hF := ifp hF c_26
              exact B157 v2 _ _ _ hS (lv_sub hl [1, 3] rfl) hF
            · replace hF := ifn hF c_26
              refine lv_iload_n hx hb dX6_isMove_151 rfl (lv_at hl 2 rfl) ?_
              refine lv_bipush (v := (nI 7)) hx hb dX6_isMove_152 (by decide) ?_
              refine lv_icmp_ne (tgt := 185) hx hb dX6_isMove_154 (by decide) (fun c_27 => ?_) (fun c_27 => ?_)
              · replace hF := ifn hF c_27
                refine lv_iconst (v := (nI 0)) hx hb dX6_isMove_185 (by decide) ?_
                replace hF := zb_e hF
                obtain ⟨h01_28, hF⟩ := hF
                have e9_0 := Option.some.inj hF
                subst e9_0
                exact kret _ _ _ _ h01_28 hS dX6_isMove_186
              · replace hF := ifp hF c_27
                exact B157 v2 _ _ _ hS (lv_sub hl [1, 3] rfl) hF
        · replace hF := ifp hF c_15
          refine lv_aload_n hx hb dX6_isMove_108 rfl (lv_at hl 1 rfl) ?_
          refine lv_iload hx hb dX6_isMove_109 (lv_at hl 0 rfl) ?_
          replace hF := cal1_e hF
          obtain ⟨x29, hc30, hF⟩ := hF
          refine kV_i (As := [.int x10]) (rest := []) (wr := []) (w2 := [(h_0, oX6 h_0_of h_0_kept h_0_column h_0_size h_0_hidden h_0_cell h_0_home h_0_waste h_0_stock h_0_past h_0_start h_0_known h_0_sorted h_0_row h_0_best I_0), (h_0_of, eI cI 9 (I_0 1)), (h_0_kept, eI cI 9 (I_0 2)), (h_0_column, eJ cJ 5 (L_0 0)), (h_0_size, eI cI 5 (I_0 3)), (h_0_hidden, eI cI 5 (I_0 4)), (h_0_cell, eI cI 2 (I_0 5)), (h_0_home, eI cI 4 (I_0 6)), (h_0_waste, eI cI 8 (I_0 7)), (h_0_stock, eI cI 8 (I_0 8)), (h_0_past, eJ cJ 1616 (L_0 1)), (h_0_start, eJ cJ 8 (L_0 2)), (h_0_known, eJ cJ 3216 (L_0 3)), (h_0_sorted, eJ cJ 3216 (L_0 4)), (h_0_row, eI cI 16 (I_0 9)), (h_0_best, eJ cJ 8 (L_0 5))]) hCF hK (c_X6_rankOf l D cI cJ h_0 h_0_of h_0_kept h_0_column h_0_size h_0_hidden h_0_cell h_0_home h_0_waste h_0_stock h_0_past h_0_start h_0_known h_0_sorted h_0_row h_0_best I_0 L_0 x10 x29 hc30) (cwV 1 hts (TBL_V mw_473 mw_474 mw_475 mw_5 mw_476) rfl rfl rfl pmX6_rankOf ⟨Nat.le_of_ble_eq_true rfl, Nat.le_of_ble_eq_true rfl⟩) hS hA [0, 1, 2, 3, 4, 5, 6, 7, 8, 9, 10, 11, 12, 13, 14, 15] [] rfl rfl rfl rfl (by decide) rfl rfl rfl hl.1 rfl (Nat.le_of_ble_eq_true rfl) ⟨Nat.zero_le _, Nat.zero_le _⟩ dX6_isMove_111 rfl (fun H locs hS => ?_)
          refine lv_aload_n hx hb dX6_isMove_114 rfl (lv_at hl 1 rfl) ?_
          refine r_get hx hb hts inX6 hown hK hS 0 19 rfl rfl (by decide) q3 rfl dX6_isMove_115 ?_
          refine lv_aload_n hx hb dX6_isMove_118 rfl (lv_at hl 1 rfl) ?_
          refine lv_iload hx hb dX6_isMove_119 (lv_at hl 0 rfl) ?_
          replace hF := cal1_e hF
          obtain ⟨x31, hc32, hF⟩ := hF
          refine kV_i (As := [.int x10]) (rest := [.ref h_0_home, .int x29]) (wr := []) (w2 := [(h_0, oX6 h_0_of h_0_kept h_0_column h_0_size h_0_hidden h_0_cell h_0_home h_0_waste h_0_stock h_0_past h_0_start h_0_known h_0_sorted h_0_row h_0_best I_0), (h_0_of, eI cI 9 (I_0 1)), (h_0_kept, eI cI 9 (I_0 2)), (h_0_column, eJ cJ 5 (L_0 0)), (h_0_size, eI cI 5 (I_0 3)), (h_0_hidden, eI cI 5 (I_0 4)), (h_0_cell, eI cI 2 (I_0 5)), (h_0_home, eI cI 4 (I_0 6)), (h_0_waste, eI cI 8 (I_0 7)), (h_0_stock, eI cI 8 (I_0 8)), (h_0_past, eJ cJ 1616 (L_0 1)), (h_0_start, eJ cJ 8 (L_0 2)), (h_0_known, eJ cJ 3216 (L_0 3)), (h_0_sorted, eJ cJ 3216 (L_0 4)), (h_0_row, eI cI 16 (I_0 9)), (h_0_best, eJ cJ 8 (L_0 5))]) hCF hK (c_X6_suitOf l D cI cJ h_0 h_0_of h_0_kept h_0_column h_0_size h_0_hidden h_0_cell h_0_home h_0_waste h_0_stock h_0_past h_0_start h_0_known h_0_sorted h_0_row h_0_best I_0 L_0 x10 x31 hc32) (cwV 1 hts (TBL_V mw_469 mw_470 mw_471 mw_5 mw_472) rfl rfl rfl pmX6_suitOf ⟨Nat.le_of_ble_eq_true rfl, Nat.le_of_ble_eq_true rfl⟩) hS hA [0, 1, 2, 3, 4, 5, 6, 7, 8, 9, 10, 11, 12, 13, 14, 15] [] rfl rfl rfl rfl (by decide) rfl rfl rfl hl.1 rfl (Nat.le_of_ble_eq_true rfl) ⟨Nat.zero_le _, Nat.zero_le _⟩ dX6_isMove_121 rfl (fun H locs hS => ?_)
          replace hF := rdA_e hF
          obtain ⟨hi34, x33, ex33, hF⟩ := hF
          refine r_iald hx hb hK hS 7 rfl rfl hi34 dX6_isMove_124 ex33 ?_
          refine lv_iconst (v := (nI 1)) hx hb dX6_isMove_125 (by decide) ?_
          refine lv_iadd hx hb dX6_isMove_126 ?_
          refine lv_icmp_ne (tgt := 134) hx hb dX6_isMove_127 (by decide) (fun c_35 => ?_) (fun c_35 => ?_)
          · replace hF := ifn hF c_35
            refine lv_iconst (v := (nI 0)) hx hb dX6_isMove_134 (by decide) ?_
            replace hF := zb_e hF
            obtain ⟨h01_36, hF⟩ := hF
            have e9_0 := Option.some.inj hF
            subst e9_0
            exact kret _ _ _ _ h01_36 hS dX6_isMove_135
          · replace hF := ifp hF c_35
            refine lv_iconst (v := (nI 1)) hx hb dX6_isMove_130 (by decide) ?_
            refine lv_goto (tgt := 135) hx hb dX6_isMove_131 (by decide) ?_
            replace hF := zb_e hF
            obtain ⟨h01_37, hF⟩ := hF
            have e9_0 := Option.some.inj hF
            subst e9_0
            exact kret _ _ _ _ h01_37 hS dX6_isMove_135
      · replace hF := ifp hF c_14
        refine lv_iconst (v := (nI 0)) hx hb dX6_isMove_100 (by decide) ?_
        replace hF := zb_e hF
        obtain ⟨h01_38, hF⟩ := hF
        have e9_0 := Option.some.inj hF
        subst e9_0
        exact kret _ _ _ _ h01_38 hS dX6_isMove_101
  unfold F_X6_isMove at hF
  refine lv_iload_n hx hb dX6_isMove_0 rfl (lv_at hl 1 rfl) ?_
  refine lv_bipush (v := (nI 9)) hx hb dX6_isMove_1 (by decide) ?_
  refine lv_icmp_ne (tgt := 51) hx hb dX6_isMove_3 (by decide) (fun c_39 => ?_) (fun c_39 => ?_)
  · replace hF := ifn hF c_39
    refine lv_iload_n hx hb dX6_isMove_51 rfl (lv_at hl 1 rfl) ?_
    refine lv_iconst (v := (nI 5)) hx hb dX6_isMove_52 (by decide) ?_
    refine lv_icmp_ge (tgt := 82) hx hb dX6_isMove_53 (by decide) (fun c_40 => ?_) (fun c_40 => ?_)
    · replace hF := ifp hF c_40
      exact B82 v1 v2 v3 _ _ _ hS (lv_sub hl [0, 1, 2, 3] rfl) hF
    · replace hF := ifn hF c_40
      refine lv_iload_n hx hb dX6_isMove_56 rfl (lv_at hl 2 rfl) ?_
      refine lv_iconst (v := (nI 5)) hx hb dX6_isMove_57 (by decide) ?_
      refine lv_icmp_ge (tgt := 82) hx hb dX6_isMove_58 (by decide) (fun c_41 => ?_) (fun c_41 => ?_)
      · replace hF := ifp hF c_41
        exact B82 v1 v2 v3 _ _ _ hS (lv_sub hl [0, 1, 2, 3] rfl) hF
      · replace hF := ifn hF c_41
        refine lv_iload_n hx hb dX6_isMove_61 rfl (lv_at hl 1 rfl) ?_
        refine lv_iload_n hx hb dX6_isMove_62 rfl (lv_at hl 2 rfl) ?_
        refine lv_icmp_eq (tgt := 80) hx hb dX6_isMove_63 (by decide) (fun c_42 => ?_) (fun c_42 => ?_)
        · replace hF := ifp hF c_42
          refine lv_iconst (v := (nI 0)) hx hb dX6_isMove_80 (by decide) ?_
          replace hF := zb_e hF
          obtain ⟨h01_43, hF⟩ := hF
          have e9_0 := Option.some.inj hF
          subst e9_0
          exact kret _ _ _ _ h01_43 hS dX6_isMove_81
        · replace hF := ifn hF c_42
          refine lv_aload_n hx hb dX6_isMove_66 rfl (lv_at hl 0 rfl) ?_
          refine lv_iload_n hx hb dX6_isMove_67 rfl (lv_at hl 1 rfl) ?_
          refine lv_iload_n hx hb dX6_isMove_68 rfl (lv_at hl 2 rfl) ?_
          refine lv_iload_n hx hb dX6_isMove_69 rfl (lv_at hl 3 rfl) ?_
          replace hF := cal1_e hF
          obtain ⟨x44, hc45, hF⟩ := hF
          refine kV_i (As := [.int v1, .int v2, .int v3]) (rest := []) (wr := []) (w2 := [(h_0, oX6 h_0_of h_0_kept h_0_column h_0_size h_0_hidden h_0_cell h_0_home h_0_waste h_0_stock h_0_past h_0_start h_0_known h_0_sorted h_0_row h_0_best I_0), (h_0_of, eI cI 9 (I_0 1)), (h_0_kept, eI cI 9 (I_0 2)), (h_0_column, eJ cJ 5 (L_0 0)), (h_0_size, eI cI 5 (I_0 3)), (h_0_hidden, eI cI 5 (I_0 4)), (h_0_cell, eI cI 2 (I_0 5)), (h_0_home, eI cI 4 (I_0 6)), (h_0_waste, eI cI 8 (I_0 7)), (h_0_stock, eI cI 8 (I_0 8)), (h_0_past, eJ cJ 1616 (L_0 1)), (h_0_start, eJ cJ 8 (L_0 2)), (h_0_known, eJ cJ 3216 (L_0 3)), (h_0_sorted, eJ cJ 3216 (L_0 4)), (h_0_row, eI cI 16 (I_0 9)), (h_0_best, eJ cJ 8 (L_0 5))]) hCF hK (c_X6_isRow l D cI cJ h_0 h_0_of h_0_kept h_0_column h_0_size h_0_hidden h_0_cell h_0_home h_0_waste h_0_stock h_0_past h_0_start h_0_known h_0_sorted h_0_row h_0_best I_0 L_0 v1 v2 v3 x44 hc45) (cwV 3 hts (TBL_V mw_457 mw_458 mw_459 mw_5 mw_460) rfl rfl rfl pmX6_isRow ⟨Nat.le_of_ble_eq_true rfl, Nat.le_of_ble_eq_true rfl⟩) hS hA [0, 1, 2, 3, 4, 5, 6, 7, 8, 9, 10, 11, 12, 13, 14, 15] [] rfl rfl rfl rfl (by decide) rfl rfl rfl hl.1 rfl (Nat.le_of_ble_eq_true rfl) ⟨Nat.zero_le _, Nat.zero_le _⟩ dX6_isMove_70 rfl (fun H locs hS => ?_)
          refine lv_if_eq (tgt := 80) hx hb dX6_isMove_73 (by decide) (fun c_46 => ?_) (fun c_46 => ?_)
          · replace hF := ifp hF c_46
            refine lv_iconst (v := (nI 0)) hx hb dX6_isMove_80 (by decide) ?_
            replace hF := zb_e hF
            obtain ⟨h01_47, hF⟩ := hF
            have e9_0 := Option.some.inj hF
            subst e9_0
            exact kret _ _ _ _ h01_47 hS dX6_isMove_81
          · replace hF := ifn hF c_46
            refine lv_iconst (v := (nI 1)) hx hb dX6_isMove_76 (by decide) ?_
            refine lv_goto (tgt := 81) hx hb dX6_isMove_77 (by decide) ?_
            replace hF := zb_e hF
            obtain ⟨h01_48, hF⟩ := hF
            have e9_0 := Option.some.inj hF
            subst e9_0
            exact kret _ _ _ _ h01_48 hS dX6_isMove_81
  · replace hF := ifp hF c_39
    refine lv_iload_n hx hb dX6_isMove_6 rfl (lv_at hl 2 rfl) ?_
    refine lv_bipush (v := (nI 7)) hx hb dX6_isMove_7 (by decide) ?_
    refine lv_icmp_ne (tgt := 49) hx hb dX6_isMove_9 (by decide) (fun c_49 => ?_) (fun c_49 => ?_)
    · replace hF := ifn hF c_49
      refine lv_iconst (v := (nI 0)) hx hb dX6_isMove_49 (by decide) ?_
      replace hF := zb_e hF
      obtain ⟨h01_50, hF⟩ := hF
      have e9_0 := Option.some.inj hF
      subst e9_0
      exact kret _ _ _ _ h01_50 hS dX6_isMove_50
    · replace hF := ifp hF c_49
      refine lv_iload_n hx hb dX6_isMove_12 rfl (lv_at hl 3 rfl) ?_
      refine lv_iconst (v := (nI 1)) hx hb dX6_isMove_13 (by decide) ?_
      refine lv_icmp_ne (tgt := 49) hx hb dX6_isMove_14 (by decide) (fun c_51 => ?_) (fun c_51 => ?_)
      · replace hF := ifn hF c_51
        refine lv_iconst (v := (nI 0)) hx hb dX6_isMove_49 (by decide) ?_
        replace hF := zb_e hF
        obtain ⟨h01_52, hF⟩ := hF
        have e9_0 := Option.some.inj hF
        subst e9_0
        exact kret _ _ _ _ h01_52 hS dX6_isMove_50
      · replace hF := ifp hF c_51
        refine lv_aload_n hx hb dX6_isMove_17 rfl (lv_at hl 0 rfl) ?_
        refine r_get hx hb hts inX6 hown hK hS 0 23 rfl rfl (by decide) q4 rfl dX6_isMove_18 ?_
        refine lv_if_gt (tgt := 45) hx hb dX6_isMove_21 (by decide) (fun c_53 => ?_) (fun c_53 => ?_)
        · replace hF := ifp hF c_53
          refine lv_iconst (v := (nI 1)) hx hb dX6_isMove_45 (by decide) ?_
          refine lv_goto (tgt := 50) hx hb dX6_isMove_46 (by decide) ?_
          replace hF := zb_e hF
          obtain ⟨h01_54, hF⟩ := hF
          have e9_0 := Option.some.inj hF
          subst e9_0
          exact kret _ _ _ _ h01_54 hS dX6_isMove_50
        · replace hF := ifn hF c_53
          refine lv_aload_n hx hb dX6_isMove_24 rfl (lv_at hl 0 rfl) ?_
          refine r_get hx hb hts inX6 hown hK hS 0 21 rfl rfl (by decide) q5 rfl dX6_isMove_25 ?_
          refine lv_if_le (tgt := 49) hx hb dX6_isMove_28 (by decide) (fun c_55 => ?_) (fun c_55 => ?_)
          · replace hF := ifp hF c_55
            refine lv_iconst (v := (nI 0)) hx hb dX6_isMove_49 (by decide) ?_
            replace hF := zb_e hF
            obtain ⟨h01_56, hF⟩ := hF
            have e9_0 := Option.some.inj hF
            subst e9_0
            exact kret _ _ _ _ h01_56 hS dX6_isMove_50
          · replace hF := ifn hF c_55
            refine lv_aload_n hx hb dX6_isMove_31 rfl (lv_at hl 0 rfl) ?_
            refine r_get hx hb hts inX6 hown hK hS 0 24 rfl rfl (by decide) q6 rfl dX6_isMove_32 ?_
            refine lv_aload_n hx hb dX6_isMove_35 rfl (lv_at hl 0 rfl) ?_
            refine r_get hx hb hts inX6 hown hK hS 0 10 rfl rfl (by decide) q0 rfl dX6_isMove_36 ?_
            refine lv_bipush (v := (nI 7)) hx hb dX6_isMove_39 (by decide) ?_
            replace hF := rdA_e hF
            obtain ⟨hi58, x57, ex57, hF⟩ := hF
            refine r_iald hx hb hK hS 1 rfl rfl hi58 dX6_isMove_41 ex57 ?_
            refine lv_icmp_ge (tgt := 49) hx hb dX6_isMove_42 (by decide) (fun c_59 => ?_) (fun c_59 => ?_)
            · replace hF := ifp hF c_59
              refine lv_iconst (v := (nI 0)) hx hb dX6_isMove_49 (by decide) ?_
              replace hF := zb_e hF
              obtain ⟨h01_60, hF⟩ := hF
              have e9_0 := Option.some.inj hF
              subst e9_0
              exact kret _ _ _ _ h01_60 hS dX6_isMove_50
            · replace hF := ifn hF c_59
              refine lv_iconst (v := (nI 1)) hx hb dX6_isMove_45 (by decide) ?_
              refine lv_goto (tgt := 50) hx hb dX6_isMove_46 (by decide) ?_
              replace hF := zb_e hF
              obtain ⟨h01_61, hF⟩ := hF
              have e9_0 := Option.some.inj hF
              subst e9_0
              exact kret _ _ _ _ h01_61 hS dX6_isMove_50
set_option maxHeartbeats 4000000 in
set_option maxRecDepth 100000 in
theorem c_X6_turnStock (l : Launch) (D : va_G) (cI cJ : ClassId) (h_0 h_0_of h_0_kept h_0_column h_0_size h_0_hidden h_0_cell h_0_home h_0_waste h_0_stock h_0_past h_0_start h_0_known h_0_sorted h_0_row h_0_best : Nat) (L_0 : Nat → Nat → Int64) (I_0 : Nat → Nat → Int32) (r_I_0 : Nat → Nat → Int32) (hF : F_X6_turnStock L_0 I_0 = some r_I_0) : CtV l D [(cI, .int), (cJ, .long)] yX6_turnStock wtX6_turnStock ({ frames := 0, cells := 0, slots := 0, locals := 0 } : Room) [.ref h_0] [(h_0, oX6 h_0_of h_0_kept h_0_column h_0_size h_0_hidden h_0_cell h_0_home h_0_waste h_0_stock h_0_past h_0_start h_0_known h_0_sorted h_0_row h_0_best I_0), (h_0_of, eI cI 9 (I_0 1)), (h_0_kept, eI cI 9 (I_0 2)), (h_0_column, eJ cJ 5 (L_0 0)), (h_0_size, eI cI 5 (I_0 3)), (h_0_hidden, eI cI 5 (I_0 4)), (h_0_cell, eI cI 2 (I_0 5)), (h_0_home, eI cI 4 (I_0 6)), (h_0_waste, eI cI 8 (I_0 7)), (h_0_stock, eI cI 8 (I_0 8)), (h_0_past, eJ cJ 1616 (L_0 1)), (h_0_start, eJ cJ 8 (L_0 2)), (h_0_known, eJ cJ 3216 (L_0 3)), (h_0_sorted, eJ cJ 3216 (L_0 4)), (h_0_row, eI cI 16 (I_0 9)), (h_0_best, eJ cJ 8 (L_0 5))] [(h_0, oX6 h_0_of h_0_kept h_0_column h_0_size h_0_hidden h_0_cell h_0_home h_0_waste h_0_stock h_0_past h_0_start h_0_known h_0_sorted h_0_row h_0_best r_I_0), (h_0_of, eI cI 9 (r_I_0 1)), (h_0_kept, eI cI 9 (r_I_0 2)), (h_0_column, eJ cJ 5 (L_0 0)), (h_0_size, eI cI 5 (r_I_0 3)), (h_0_hidden, eI cI 5 (r_I_0 4)), (h_0_cell, eI cI 2 (r_I_0 5)), (h_0_home, eI cI 4 (r_I_0 6)), (h_0_waste, eI cI 8 (r_I_0 7)), (h_0_stock, eI cI 8 (r_I_0 8)), (h_0_past, eJ cJ 1616 (L_0 1)), (h_0_start, eJ cJ 8 (L_0 2)), (h_0_known, eJ cJ 3216 (L_0 3)), (h_0_sorted, eJ cJ 3216 (L_0 4)), (h_0_row, eI cI 16 (r_I_0 9)), (h_0_best, eJ cJ 8 (L_0 5))] := by
  refine CtV.of (cc := cX6_turnStock) (maxL := 2) (by decide) rfl (Nat.le_of_ble_eq_true rfl) ?_
  intro p e s m args below meth c A H0 Q ls X hS hl kret
  have hCF := X.1
  obtain ⟨⟨hx, hb, hml, hown, hts⟩, hK, hA⟩ := X
  have hl : lv_has ls 2 [(0, .ref h_0)] := hl
  have q0 := hts (.fieldLink RX6 117 "PatienceryModel" "wasted" "I") (List.mem_cons_of_mem _ mw_195)
  have inX6 : ∀ w ∈ u_ws RX6 TX6 32, w ∈ wtX6_turnStock := fun w h => List.mem_cons_of_mem _ (inlX6 w h)
  have q2 := hts (.fieldLink RX6 120 "PatienceryModel" "left" "I") (List.mem_cons_of_mem _ mw_190)
  have q3 := hts (.fieldLink RX6 123 "PatienceryModel" "turned" "I") (List.mem_cons_of_mem _ mw_196)
  have q4 := hts (.fieldLink RX6 51 "PatienceryModel" "stock" "[I") (List.mem_cons_of_mem _ mw_169)
  have q5 := hts (.fieldLink RX6 48 "PatienceryModel" "waste" "[I") (List.mem_cons_of_mem _ mw_168)
  have B83 : ∀ (I_0 : Nat → Nat → Int32) (H : Heap) (locs : List Loc) (ls : Array Slot), HS D A H0 [(h_0, oX6 h_0_of h_0_kept h_0_column h_0_size h_0_hidden h_0_cell h_0_home h_0_waste h_0_stock h_0_past h_0_start h_0_known h_0_sorted h_0_row h_0_best I_0), (h_0_of, eI cI 9 (I_0 1)), (h_0_kept, eI cI 9 (I_0 2)), (h_0_column, eJ cJ 5 (L_0 0)), (h_0_size, eI cI 5 (I_0 3)), (h_0_hidden, eI cI 5 (I_0 4)), (h_0_cell, eI cI 2 (I_0 5)), (h_0_home, eI cI 4 (I_0 6)), (h_0_waste, eI cI 8 (I_0 7)), (h_0_stock, eI cI 8 (I_0 8)), (h_0_past, eJ cJ 1616 (L_0 1)), (h_0_start, eJ cJ 8 (L_0 2)), (h_0_known, eJ cJ 3216 (L_0 3)), (h_0_sorted, eJ cJ 3216 (L_0 4)), (h_0_row, eI cI 16 (I_0 9)), (h_0_best, eJ cJ 8 (L_0 5))] H locs → lv_has ls 2 [(0, .ref h_0)] → F_X6_turnStock_b83 L_0  I_0 = some r_I_0 → W p l e ({ frames := 0, cells := 0, slots := 0, locals := 0 } : Room) s m args below meth c H locs 0 0 Q (F0 m 83 ls []) := by
    intro I_0 H locs ls hS hl hF
    unfold F_X6_turnStock_b83 at hF
    refine lv_aload_n hx hb dX6_turnStock_83 rfl (lv_at hl 0 rfl) ?_
    refine lv_aload_n hx hb dX6_turnStock_84 rfl (lv_at hl 0 rfl) ?_
    refine r_get hx hb hts inX6 hown hK hS 0 21 rfl rfl (by decide) q0 rfl dX6_turnStock_85 ?_
    replace hF := bnd_e hF
    obtain ⟨I_0u1, eI_0u1, hF⟩ := hF
    refine r_put (w2 := [(h_0, oX6 h_0_of h_0_kept h_0_column h_0_size h_0_hidden h_0_cell h_0_home h_0_waste h_0_stock h_0_past h_0_start h_0_known h_0_sorted h_0_row h_0_best I_0u1), (h_0_of, eI cI 9 (I_0u1 1)), (h_0_kept, eI cI 9 (I_0u1 2)), (h_0_column, eJ cJ 5 (L_0 0)), (h_0_size, eI cI 5 (I_0u1 3)), (h_0_hidden, eI cI 5 (I_0u1 4)), (h_0_cell, eI cI 2 (I_0u1 5)), (h_0_home, eI cI 4 (I_0u1 6)), (h_0_waste, eI cI 8 (I_0u1 7)), (h_0_stock, eI cI 8 (I_0u1 8)), (h_0_past, eJ cJ 1616 (L_0 1)), (h_0_start, eJ cJ 8 (L_0 2)), (h_0_known, eJ cJ 3216 (L_0 3)), (h_0_sorted, eJ cJ 3216 (L_0 4)), (h_0_row, eI cI 16 (I_0u1 9)), (h_0_best, eJ cJ 8 (L_0 5))]) hx hb hts inX6 tyX6 tyX6_ok nmX6 hown hK hS 0 23 rfl rfl (by decide) q2 rfl rfl rfl (Nat.le_of_ble_eq_true rfl) dX6_turnStock_88 (by rw [eI_0u1]; rfl) (fun H locs hS => ?_)
    refine lv_aload_n hx hb dX6_turnStock_91 rfl (lv_at hl 0 rfl) ?_
    refine lv_iconst (v := (nI 0)) hx hb dX6_turnStock_92 (by decide) ?_
    replace hF := bnd_e hF
    obtain ⟨I_0u2, eI_0u2, hF⟩ := hF
    refine r_put (w2 := [(h_0, oX6 h_0_of h_0_kept h_0_column h_0_size h_0_hidden h_0_cell h_0_home h_0_waste h_0_stock h_0_past h_0_start h_0_known h_0_sorted h_0_row h_0_best I_0u2), (h_0_of, eI cI 9 (I_0u2 1)), (h_0_kept, eI cI 9 (I_0u2 2)), (h_0_column, eJ cJ 5 (L_0 0)), (h_0_size, eI cI 5 (I_0u2 3)), (h_0_hidden, eI cI 5 (I_0u2 4)), (h_0_cell, eI cI 2 (I_0u2 5)), (h_0_home, eI cI 4 (I_0u2 6)), (h_0_waste, eI cI 8 (I_0u2 7)), (h_0_stock, eI cI 8 (I_0u2 8)), (h_0_past, eJ cJ 1616 (L_0 1)), (h_0_start, eJ cJ 8 (L_0 2)), (h_0_known, eJ cJ 3216 (L_0 3)), (h_0_sorted, eJ cJ 3216 (L_0 4)), (h_0_row, eI cI 16 (I_0u2 9)), (h_0_best, eJ cJ 8 (L_0 5))]) hx hb hts inX6 tyX6 tyX6_ok nmX6 hown hK hS 0 21 rfl rfl (by decide) q0 rfl rfl rfl (Nat.le_of_ble_eq_true rfl) dX6_turnStock_93 (by rw [eI_0u2]; rfl) (fun H locs hS => ?_)
    refine lv_aload_n hx hb dX6_turnStock_96 rfl (lv_at hl 0 rfl) ?_
    refine lv_dup hx hb dX6_turnStock_97 rfl ?_
    refine r_get hx hb hts inX6 hown hK hS 0 24 rfl rfl (by decide) q3 rfl dX6_turnStock_98 ?_
    refine lv_iconst (v := (nI 1)) hx hb dX6_turnStock_101 (by decide) ?_
    refine lv_iadd hx hb dX6_turnStock_102 ?_
    replace hF := bnd_e hF
    obtain ⟨I_0u3, eI_0u3, hF⟩ := hF
    refine r_put (w2 := [(h_0, oX6 h_0_of h_0_kept h_0_column h_0_size h_0_hidden h_0_cell h_0_home h_0_waste h_0_stock h_0_past h_0_start h_0_known h_0_sorted h_0_row h_0_best I_0u3), (h_0_of, eI cI 9 (I_0u3 1)), (h_0_kept, eI cI 9 (I_0u3 2)), (h_0_column, eJ cJ 5 (L_0 0)), (h_0_size, eI cI 5 (I_0u3 3)), (h_0_hidden, eI cI 5 (I_0u3 4)), (h_0_cell, eI cI 2 (I_0u3 5)), (h_0_home, eI cI 4 (I_0u3 6)), (h_0_waste, eI cI 8 (I_0u3 7)), (h_0_stock, eI cI 8 (I_0u3 8)), (h_0_past, eJ cJ 1616 (L_0 1)), (h_0_start, eJ cJ 8 (L_0 2)), (h_0_known, eJ cJ 3216 (L_0 3)), (h_0_sorted, eJ cJ 3216 (L_0 4)), (h_0_row, eI cI 16 (I_0u3 9)), (h_0_best, eJ cJ 8 (L_0 5))]) hx hb hts inX6 tyX6 tyX6_ok nmX6 hown hK hS 0 24 rfl rfl (by decide) q3 rfl rfl rfl (Nat.le_of_ble_eq_true rfl) dX6_turnStock_103 (by rw [eI_0u3]; rfl) (fun H locs hS => ?_)
    have e9_0 := Option.some.inj hF
    subst e9_0
    exact kret _ _ _ _ hS dX6_turnStock_106
  have S50 : ∀ (K50 : (Nat → Nat → Int32) → Int32 → Option ((Nat → Nat → Int32))) (_ : ∀ (I_0 : Nat → Nat → Int32) (v1 : Int32) (H : Heap) (locs : List Loc) (ls : Array Slot), HS D A H0 [(h_0, oX6 h_0_of h_0_kept h_0_column h_0_size h_0_hidden h_0_cell h_0_home h_0_waste h_0_stock h_0_past h_0_start h_0_known h_0_sorted h_0_row h_0_best I_0), (h_0_of, eI cI 9 (I_0 1)), (h_0_kept, eI cI 9 (I_0 2)), (h_0_column, eJ cJ 5 (L_0 0)), (h_0_size, eI cI 5 (I_0 3)), (h_0_hidden, eI cI 5 (I_0 4)), (h_0_cell, eI cI 2 (I_0 5)), (h_0_home, eI cI 4 (I_0 6)), (h_0_waste, eI cI 8 (I_0 7)), (h_0_stock, eI cI 8 (I_0 8)), (h_0_past, eJ cJ 1616 (L_0 1)), (h_0_start, eJ cJ 8 (L_0 2)), (h_0_known, eJ cJ 3216 (L_0 3)), (h_0_sorted, eJ cJ 3216 (L_0 4)), (h_0_row, eI cI 16 (I_0 9)), (h_0_best, eJ cJ 8 (L_0 5))] H locs → lv_has ls 2 [(0, .ref h_0), (1, .int v1)] → K50 I_0 v1 = some r_I_0 → W p l e ({ frames := 0, cells := 0, slots := 0, locals := 0 } : Room) s m args below meth c H locs 0 0 Q (F0 m 50 ls [])) (I_0 : Nat → Nat → Int32) (v1 : Int32) (H : Heap) (locs : List Loc) (ls : Array Slot), HS D A H0 [(h_0, oX6 h_0_of h_0_kept h_0_column h_0_size h_0_hidden h_0_cell h_0_home h_0_waste h_0_stock h_0_past h_0_start h_0_known h_0_sorted h_0_row h_0_best I_0), (h_0_of, eI cI 9 (I_0 1)), (h_0_kept, eI cI 9 (I_0 2)), (h_0_column, eJ cJ 5 (L_0 0)), (h_0_size, eI cI 5 (I_0 3)), (h_0_hidden, eI cI 5 (I_0 4)), (h_0_cell, eI cI 2 (I_0 5)), (h_0_home, eI cI 4 (I_0 6)), (h_0_waste, eI cI 8 (I_0 7)), (h_0_stock, eI cI 8 (I_0 8)), (h_0_past, eJ cJ 1616 (L_0 1)), (h_0_start, eJ cJ 8 (L_0 2)), (h_0_known, eJ cJ 3216 (L_0 3)), (h_0_sorted, eJ cJ 3216 (L_0 4)), (h_0_row, eI cI 16 (I_0 9)), (h_0_best, eJ cJ 8 (L_0 5))] H locs → lv_has ls 2 [(0, .ref h_0), (1, .int v1)] → F_X6_turnStock_s50 L_0 K50 I_0 v1 = some r_I_0 → W p l e ({ frames := 0, cells := 0, slots := 0, locals := 0 } : Room) s m args below meth c H locs 0 0 Q (F0 m 50 ls []) := by
    intro K50 hK50 I_0 v1 H locs ls hS hl hF
    unfold F_X6_turnStock_s50 at hF
    refine lv_iload_n hx hb dX6_turnStock_50 rfl (lv_at hl 1 rfl) ?_
    refine lv_aload_n hx hb dX6_turnStock_51 rfl (lv_at hl 0 rfl) ?_
    refine r_get hx hb hts inX6 hown hK hS 0 21 rfl rfl (by decide) q0 rfl dX6_turnStock_52 ?_
    refine lv_icmp_ge (tgt := 83) hx hb dX6_turnStock_55 (by decide) (fun c_4 => ?_) (fun c_4 => ?_)
    · replace hF := ifp hF c_4
      exact B83 I_0 _ _ _ hS (lv_sub hl [0] rfl) hF
    · replace hF := ifn hF c_4
      refine lv_aload_n hx hb dX6_turnStock_58 rfl (lv_at hl 0 rfl) ?_
      refine r_get hx hb hts inX6 hown hK hS 0 22 rfl rfl (by decide) q4 rfl dX6_turnStock_59 ?_
      refine lv_iload_n hx hb dX6_turnStock_62 rfl (lv_at hl 1 rfl) ?_
      refine lv_aload_n hx hb dX6_turnStock_63 rfl (lv_at hl 0 rfl) ?_
      refine r_get hx hb hts inX6 hown hK hS 0 20 rfl rfl (by decide) q5 rfl dX6_turnStock_64 ?_
      refine lv_aload_n hx hb dX6_turnStock_67 rfl (lv_at hl 0 rfl) ?_
      refine r_get hx hb hts inX6 hown hK hS 0 21 rfl rfl (by decide) q0 rfl dX6_turnStock_68 ?_
      refine lv_iconst (v := (nI 1)) hx hb dX6_turnStock_71 (by decide) ?_
      refine lv_isub hx hb dX6_turnStock_72 ?_
      refine lv_iload_n hx hb dX6_turnStock_73 rfl (lv_at hl 1 rfl) ?_
      refine lv_isub hx hb dX6_turnStock_74 ?_
      replace hF := rdA_e hF
      obtain ⟨hi6, x5, ex5, hF⟩ := hF
      refine r_iald hx hb hK hS 8 rfl rfl hi6 dX6_turnStock_75 ex5 ?_
      replace hF := wrA_e hF
      obtain ⟨hi8, I_0u7, eI_0u7, hF⟩ := hF
      refine r_iast (w2 := [(h_0, oX6 h_0_of h_0_kept h_0_column h_0_size h_0_hidden h_0_cell h_0_home h_0_waste h_0_stock h_0_past h_0_start h_0_known h_0_sorted h_0_row h_0_best I_0u7), (h_0_of, eI cI 9 (I_0u7 1)), (h_0_kept, eI cI 9 (I_0u7 2)), (h_0_column, eJ cJ 5 (L_0 0)), (h_0_size, eI cI 5 (I_0u7 3)), (h_0_hidden, eI cI 5 (I_0u7 4)), (h_0_cell, eI cI 2 (I_0u7 5)), (h_0_home, eI cI 4 (I_0u7 6)), (h_0_waste, eI cI 8 (I_0u7 7)), (h_0_stock, eI cI 8 (I_0u7 8)), (h_0_past, eJ cJ 1616 (L_0 1)), (h_0_start, eJ cJ 8 (L_0 2)), (h_0_known, eJ cJ 3216 (L_0 3)), (h_0_sorted, eJ cJ 3216 (L_0 4)), (h_0_row, eI cI 16 (I_0u7 9)), (h_0_best, eJ cJ 8 (L_0 5))]) hx hb hK hS 9 rfl rfl hi8 dX6_turnStock_76 (by rw [eI_0u7]; rfl) (fun H locs hS => ?_)
      refine lv_iinc (v := v1 + (nI 1)) (lv' := [(1, .int (v1 + (nI 1))), (0, .ref h_0)]) hx hb dX6_turnStock_77 hl (k := 1) rfl rfl (by decide) rfl (fun ls hl => ?_)
      refine lv_goto (tgt := 50) hx hb dX6_turnStock_80 (by decide) ?_
      exact hK50 I_0u7 (v1 + (nI 1)) _ _ _ hS (lv_sub hl [1, 0] rfl) hF
  have L50 : ∀  (n : Nat) (I_0 : Nat → Nat → Int32) (v1 : Int32) (H : Heap) (locs : List Loc) (ls : Array Slot), HS D A H0 [(h_0, oX6 h_0_of h_0_kept h_0_column h_0_size h_0_hidden h_0_cell h_0_home h_0_waste h_0_stock h_0_past h_0_start h_0_known h_0_sorted h_0_row h_0_best I_0), (h_0_of, eI cI 9 (I_0 1)), (h_0_kept, eI cI 9 (I_0 2)), (h_0_column, eJ cJ 5 (L_0 0)), (h_0_size, eI cI 5 (I_0 3)), (h_0_hidden, eI cI 5 (I_0 4)), (h_0_cell, eI cI 2 (I_0 5)), (h_0_home, eI cI 4 (I_0 6)), (h_0_waste, eI cI 8 (I_0 7)), (h_0_stock, eI cI 8 (I_0 8)), (h_0_past, eJ cJ 1616 (L_0 1)), (h_0_start, eJ cJ 8 (L_0 2)), (h_0_known, eJ cJ 3216 (L_0 3)), (h_0_sorted, eJ cJ 3216 (L_0 4)), (h_0_row, eI cI 16 (I_0 9)), (h_0_best, eJ cJ 8 (L_0 5))] H locs → lv_has ls 2 [(0, .ref h_0), (1, .int v1)] → F_X6_turnStock_L50 L_0  n I_0 v1 = some r_I_0 → W p l e ({ frames := 0, cells := 0, slots := 0, locals := 0 } : Room) s m args below meth c H locs 0 0 Q (F0 m 50 ls []) := by
    intro  n
    induction n with
    | zero => intro I_0 v1 H locs ls hS hl hF; exact nomatch (show (none : Option ((Nat → Nat → Int32))) = some _ from hF)
    | succ n ih => intro I_0 v1 H locs ls hS hl hF; exact S50  _ ih I_0 v1 H locs ls hS hl hF
  unfold F_X6_turnStock at hF
  refine lv_aload_n hx hb dX6_turnStock_0 rfl (lv_at hl 0 rfl) ?_
  refine r_get hx hb hts inX6 hown hK hS 0 23 rfl rfl (by decide) q2 rfl dX6_turnStock_1 ?_
  refine lv_if_le (tgt := 48) hx hb dX6_turnStock_4 (by decide) (fun c_9 => ?_) (fun c_9 => ?_)
  · replace hF := ifp hF c_9
    refine lv_iconst (v := (nI 0)) hx hb dX6_turnStock_48 (by decide) ?_
    refine lv_istore_n (lv' := [(1, .int (nI 0)), (0, .ref h_0)]) hx hb dX6_turnStock_49 rfl hl (by decide) rfl (fun ls hl => ?_)
    exact L50 FU I_0 (nI 0) _ _ _ hS (lv_sub hl [1, 0] rfl) hF
  · replace hF := ifn hF c_9
    refine lv_aload_n hx hb dX6_turnStock_7 rfl (lv_at hl 0 rfl) ?_
    refine lv_dup hx hb dX6_turnStock_8 rfl ?_
    refine r_get hx hb hts inX6 hown hK hS 0 23 rfl rfl (by decide) q2 rfl dX6_turnStock_9 ?_
    refine lv_iconst (v := (nI 1)) hx hb dX6_turnStock_12 (by decide) ?_
    refine lv_isub hx hb dX6_turnStock_13 ?_
    replace hF := bnd_e hF
    obtain ⟨I_0u10, eI_0u10, hF⟩ := hF
    refine r_put (w2 := [(h_0, oX6 h_0_of h_0_kept h_0_column h_0_size h_0_hidden h_0_cell h_0_home h_0_waste h_0_stock h_0_past h_0_start h_0_known h_0_sorted h_0_row h_0_best I_0u10), (h_0_of, eI cI 9 (I_0u10 1)), (h_0_kept, eI cI 9 (I_0u10 2)), (h_0_column, eJ cJ 5 (L_0 0)), (h_0_size, eI cI 5 (I_0u10 3)), (h_0_hidden, eI cI 5 (I_0u10 4)), (h_0_cell, eI cI 2 (I_0u10 5)), (h_0_home, eI cI 4 (I_0u10 6)), (h_0_waste, eI cI 8 (I_0u10 7)), (h_0_stock, eI cI 8 (I_0u10 8)), (h_0_past, eJ cJ 1616 (L_0 1)), (h_0_start, eJ cJ 8 (L_0 2)), (h_0_known, eJ cJ 3216 (L_0 3)), (h_0_sorted, eJ cJ 3216 (L_0 4)), (h_0_row, eI cI 16 (I_0u10 9)), (h_0_best, eJ cJ 8 (L_0 5))]) hx hb hts inX6 tyX6 tyX6_ok nmX6 hown hK hS 0 23 rfl rfl (by decide) q2 rfl rfl rfl (Nat.le_of_ble_eq_true rfl) dX6_turnStock_14 (by rw [eI_0u10]; rfl) (fun H locs hS => ?_)
    refine lv_aload_n hx hb dX6_turnStock_17 rfl (lv_at hl 0 rfl) ?_
    refine r_get hx hb hts inX6 hown hK hS 0 20 rfl rfl (by decide) q5 rfl dX6_turnStock_18 ?_
    refine lv_aload_n hx hb dX6_turnStock_21 rfl (lv_at hl 0 rfl) ?_
    refine r_get hx hb hts inX6 hown hK hS 0 21 rfl rfl (by decide) q0 rfl dX6_turnStock_22 ?_
    refine lv_aload_n hx hb dX6_turnStock_25 rfl (lv_at hl 0 rfl) ?_
    refine r_get hx hb hts inX6 hown hK hS 0 22 rfl rfl (by decide) q4 rfl dX6_turnStock_26 ?_
    refine lv_aload_n hx hb dX6_turnStock_29 rfl (lv_at hl 0 rfl) ?_
    refine r_get hx hb hts inX6 hown hK hS 0 23 rfl rfl (by decide) q2 rfl dX6_turnStock_30 ?_
    replace hF := rdA_e hF
    obtain ⟨hi12, x11, ex11, hF⟩ := hF
    refine r_iald hx hb hK hS 9 rfl rfl hi12 dX6_turnStock_33 ex11 ?_
    replace hF := wrA_e hF
    obtain ⟨hi14, I_0u13, eI_0u13, hF⟩ := hF
    refine r_iast (w2 := [(h_0, oX6 h_0_of h_0_kept h_0_column h_0_size h_0_hidden h_0_cell h_0_home h_0_waste h_0_stock h_0_past h_0_start h_0_known h_0_sorted h_0_row h_0_best I_0u13), (h_0_of, eI cI 9 (I_0u13 1)), (h_0_kept, eI cI 9 (I_0u13 2)), (h_0_column, eJ cJ 5 (L_0 0)), (h_0_size, eI cI 5 (I_0u13 3)), (h_0_hidden, eI cI 5 (I_0u13 4)), (h_0_cell, eI cI 2 (I_0u13 5)), (h_0_home, eI cI 4 (I_0u13 6)), (h_0_waste, eI cI 8 (I_0u13 7)), (h_0_stock, eI cI 8 (I_0u13 8)), (h_0_past, eJ cJ 1616 (L_0 1)), (h_0_start, eJ cJ 8 (L_0 2)), (h_0_known, eJ cJ 3216 (L_0 3)), (h_0_sorted, eJ cJ 3216 (L_0 4)), (h_0_row, eI cI 16 (I_0u13 9)), (h_0_best, eJ cJ 8 (L_0 5))]) hx hb hK hS 8 rfl rfl hi14 dX6_turnStock_34 (by rw [eI_0u13]; rfl) (fun H locs hS => ?_)
    refine lv_aload_n hx hb dX6_turnStock_35 rfl (lv_at hl 0 rfl) ?_
    refine lv_dup hx hb dX6_turnStock_36 rfl ?_
    refine r_get hx hb hts inX6 hown hK hS 0 21 rfl rfl (by decide) q0 rfl dX6_turnStock_37 ?_
    refine lv_iconst (v := (nI 1)) hx hb dX6_turnStock_40 (by decide) ?_
    refine lv_iadd hx hb dX6_turnStock_41 ?_
    replace hF := bnd_e hF
    obtain ⟨I_0u15, eI_0u15, hF⟩ := hF
    refine r_put (w2 := [(h_0, oX6 h_0_of h_0_kept h_0_column h_0_size h_0_hidden h_0_cell h_0_home h_0_waste h_0_stock h_0_past h_0_start h_0_known h_0_sorted h_0_row h_0_best I_0u15), (h_0_of, eI cI 9 (I_0u15 1)), (h_0_kept, eI cI 9 (I_0u15 2)), (h_0_column, eJ cJ 5 (L_0 0)), (h_0_size, eI cI 5 (I_0u15 3)), (h_0_hidden, eI cI 5 (I_0u15 4)), (h_0_cell, eI cI 2 (I_0u15 5)), (h_0_home, eI cI 4 (I_0u15 6)), (h_0_waste, eI cI 8 (I_0u15 7)), (h_0_stock, eI cI 8 (I_0u15 8)), (h_0_past, eJ cJ 1616 (L_0 1)), (h_0_start, eJ cJ 8 (L_0 2)), (h_0_known, eJ cJ 3216 (L_0 3)), (h_0_sorted, eJ cJ 3216 (L_0 4)), (h_0_row, eI cI 16 (I_0u15 9)), (h_0_best, eJ cJ 8 (L_0 5))]) hx hb hts inX6 tyX6 tyX6_ok nmX6 hown hK hS 0 21 rfl rfl (by decide) q0 rfl rfl rfl (Nat.le_of_ble_eq_true rfl) dX6_turnStock_42 (by rw [eI_0u15]; rfl) (fun H locs hS => ?_)
    refine lv_goto (tgt := 106) hx hb dX6_turnStock_45 (by decide) ?_
    have e9_0 := Option.some.inj hF
    subst e9_0
    exact kret _ _ _ _ hS dX6_turnStock_106
set_option maxHeartbeats 4000000 in
set_option maxRecDepth 100000 in
theorem c_X6_take (l : Launch) (D : va_G) (cI cJ : ClassId) (h_0 h_0_of h_0_kept h_0_column h_0_size h_0_hidden h_0_cell h_0_home h_0_waste h_0_stock h_0_past h_0_start h_0_known h_0_sorted h_0_row h_0_best : Nat) (I_0 : Nat → Nat → Int32) (L_0 : Nat → Nat → Int64) (v1 : Int32) (rv : Int32) (r_I_0 : Nat → Nat → Int32) (r_L_0 : Nat → Nat → Int64) (hF : F_X6_take I_0 L_0 v1 = some (rv, r_I_0, r_L_0)) : CtI l D [(cI, .int), (cJ, .long)] yX6_take wtX6_take ({ frames := 2, cells := 0, slots := 0, locals := 44 } : Room) [.ref h_0, .int v1] [(h_0, oX6 h_0_of h_0_kept h_0_column h_0_size h_0_hidden h_0_cell h_0_home h_0_waste h_0_stock h_0_past h_0_start h_0_known h_0_sorted h_0_row h_0_best I_0), (h_0_of, eI cI 9 (I_0 1)), (h_0_kept, eI cI 9 (I_0 2)), (h_0_column, eJ cJ 5 (L_0 0)), (h_0_size, eI cI 5 (I_0 3)), (h_0_hidden, eI cI 5 (I_0 4)), (h_0_cell, eI cI 2 (I_0 5)), (h_0_home, eI cI 4 (I_0 6)), (h_0_waste, eI cI 8 (I_0 7)), (h_0_stock, eI cI 8 (I_0 8)), (h_0_past, eJ cJ 1616 (L_0 1)), (h_0_start, eJ cJ 8 (L_0 2)), (h_0_known, eJ cJ 3216 (L_0 3)), (h_0_sorted, eJ cJ 3216 (L_0 4)), (h_0_row, eI cI 16 (I_0 9)), (h_0_best, eJ cJ 8 (L_0 5))] [(h_0, oX6 h_0_of h_0_kept h_0_column h_0_size h_0_hidden h_0_cell h_0_home h_0_waste h_0_stock h_0_past h_0_start h_0_known h_0_sorted h_0_row h_0_best r_I_0), (h_0_of, eI cI 9 (r_I_0 1)), (h_0_kept, eI cI 9 (r_I_0 2)), (h_0_column, eJ cJ 5 (r_L_0 0)), (h_0_size, eI cI 5 (r_I_0 3)), (h_0_hidden, eI cI 5 (r_I_0 4)), (h_0_cell, eI cI 2 (r_I_0 5)), (h_0_home, eI cI 4 (r_I_0 6)), (h_0_waste, eI cI 8 (r_I_0 7)), (h_0_stock, eI cI 8 (r_I_0 8)), (h_0_past, eJ cJ 1616 (r_L_0 1)), (h_0_start, eJ cJ 8 (r_L_0 2)), (h_0_known, eJ cJ 3216 (r_L_0 3)), (h_0_sorted, eJ cJ 3216 (r_L_0 4)), (h_0_row, eI cI 16 (r_I_0 9)), (h_0_best, eJ cJ 8 (r_L_0 5))] rv := by
  refine CtI.of (cc := cX6_take) (maxL := 3) (by decide) rfl (Nat.le_of_ble_eq_true rfl) ?_
  intro p e s m args below meth c A H0 Q ls X hS hl kret
  have hCF := X.1
  obtain ⟨⟨hx, hb, hml, hown, hts⟩, hK, hA⟩ := X
  have hl : lv_has ls 3 [(0, .ref h_0), (1, .int v1)] := hl
  have q0 := hts (.fieldLink RX6 117 "PatienceryModel" "wasted" "I") (List.mem_cons_of_mem _ mw_195)
  have inX6 : ∀ w ∈ u_ws RX6 TX6 32, w ∈ wtX6_take := fun w h => List.mem_cons_of_mem _ (inlX6 w h)
  have q2 := hts (.fieldLink RX6 48 "PatienceryModel" "waste" "[I") (List.mem_cons_of_mem _ mw_168)
  have q3 := hts (.fieldLink RX6 42 "PatienceryModel" "cell" "[I") (List.mem_cons_of_mem _ mw_166)
  unfold F_X6_take at hF
  refine lv_iload_n hx hb dX6_take_0 rfl (lv_at hl 1 rfl) ?_
  refine lv_iconst (v := (nI 5)) hx hb dX6_take_1 (by decide) ?_
  refine lv_icmp_ge (tgt := 11) hx hb dX6_take_2 (by decide) (fun c_1 => ?_) (fun c_1 => ?_)
  · replace hF := ifp hF c_1
    refine lv_iload_n hx hb dX6_take_11 rfl (lv_at hl 1 rfl) ?_
    refine lv_bipush (v := (nI 7)) hx hb dX6_take_12 (by decide) ?_
    refine lv_icmp_ge (tgt := 37) hx hb dX6_take_14 (by decide) (fun c_2 => ?_) (fun c_2 => ?_)
    · replace hF := ifp hF c_2
      refine lv_aload_n hx hb dX6_take_37 rfl (lv_at hl 0 rfl) ?_
      refine lv_dup hx hb dX6_take_38 rfl ?_
      refine r_get hx hb hts inX6 hown hK hS 0 21 rfl rfl (by decide) q0 rfl dX6_take_39 ?_
      refine lv_iconst (v := (nI 1)) hx hb dX6_take_42 (by decide) ?_
      refine lv_isub hx hb dX6_take_43 ?_
      replace hF := bnd_e hF
      obtain ⟨I_0u3, eI_0u3, hF⟩ := hF
      refine r_put (w2 := [(h_0, oX6 h_0_of h_0_kept h_0_column h_0_size h_0_hidden h_0_cell h_0_home h_0_waste h_0_stock h_0_past h_0_start h_0_known h_0_sorted h_0_row h_0_best I_0u3), (h_0_of, eI cI 9 (I_0u3 1)), (h_0_kept, eI cI 9 (I_0u3 2)), (h_0_column, eJ cJ 5 (L_0 0)), (h_0_size, eI cI 5 (I_0u3 3)), (h_0_hidden, eI cI 5 (I_0u3 4)), (h_0_cell, eI cI 2 (I_0u3 5)), (h_0_home, eI cI 4 (I_0u3 6)), (h_0_waste, eI cI 8 (I_0u3 7)), (h_0_stock, eI cI 8 (I_0u3 8)), (h_0_past, eJ cJ 1616 (L_0 1)), (h_0_start, eJ cJ 8 (L_0 2)), (h_0_known, eJ cJ 3216 (L_0 3)), (h_0_sorted, eJ cJ 3216 (L_0 4)), (h_0_row, eI cI 16 (I_0u3 9)), (h_0_best, eJ cJ 8 (L_0 5))]) hx hb hts inX6 tyX6 tyX6_ok nmX6 hown hK hS 0 21 rfl rfl (by decide) q0 rfl rfl rfl (Nat.le_of_ble_eq_true rfl) dX6_take_44 (by rw [eI_0u3]; rfl) (fun H locs hS => ?_)
      refine lv_aload_n hx hb dX6_take_47 rfl (lv_at hl 0 rfl) ?_
      refine r_get hx hb hts inX6 hown hK hS 0 20 rfl rfl (by decide) q2 rfl dX6_take_48 ?_
      refine lv_aload_n hx hb dX6_take_51 rfl (lv_at hl 0 rfl) ?_
      refine r_get hx hb hts inX6 hown hK hS 0 21 rfl rfl (by decide) q0 rfl dX6_take_52 ?_
      replace hF := rdA_e hF
      obtain ⟨hi5, x4, ex4, hF⟩ := hF
      refine r_iald hx hb hK hS 8 rfl rfl hi5 dX6_take_55 ex4 ?_
      have e9_0 := Option.some.inj hF
      obtain ⟨f9_0, e9_1⟩ := Prod.mk.inj e9_0
      obtain ⟨f9_1, e9_2⟩ := Prod.mk.inj e9_1
      subst f9_0
      subst f9_1
      subst e9_2
      exact kret _ _ _ _ hS dX6_take_56
    · replace hF := ifn hF c_2
      refine lv_aload_n hx hb dX6_take_17 rfl (lv_at hl 0 rfl) ?_
      refine r_get hx hb hts inX6 hown hK hS 0 18 rfl rfl (by decide) q3 rfl dX6_take_18 ?_
      refine lv_iload_n hx hb dX6_take_21 rfl (lv_at hl 1 rfl) ?_
      refine lv_iconst (v := (nI 5)) hx hb dX6_take_22 (by decide) ?_
      refine lv_isub hx hb dX6_take_23 ?_
      replace hF := rdA_e hF
      obtain ⟨hi7, x6, ex6, hF⟩ := hF
      refine r_iald hx hb hK hS 6 rfl rfl hi7 dX6_take_24 ex6 ?_
      refine lv_istore_n (lv' := [(2, .int x6), (0, .ref h_0), (1, .int v1)]) hx hb dX6_take_25 rfl hl (by decide) rfl (fun ls hl => ?_)
      refine lv_aload_n hx hb dX6_take_26 rfl (lv_at hl 1 rfl) ?_
      refine r_get hx hb hts inX6 hown hK hS 0 18 rfl rfl (by decide) q3 rfl dX6_take_27 ?_
      refine lv_iload_n hx hb dX6_take_30 rfl (lv_at hl 2 rfl) ?_
      refine lv_iconst (v := (nI 5)) hx hb dX6_take_31 (by decide) ?_
      refine lv_isub hx hb dX6_take_32 ?_
      refine lv_iconst (v := (-1)) hx hb dX6_take_33 (by decide) ?_
      replace hF := wrA_e hF
      obtain ⟨hi9, I_0u8, eI_0u8, hF⟩ := hF
      refine r_iast (w2 := [(h_0, oX6 h_0_of h_0_kept h_0_column h_0_size h_0_hidden h_0_cell h_0_home h_0_waste h_0_stock h_0_past h_0_start h_0_known h_0_sorted h_0_row h_0_best I_0u8), (h_0_of, eI cI 9 (I_0u8 1)), (h_0_kept, eI cI 9 (I_0u8 2)), (h_0_column, eJ cJ 5 (L_0 0)), (h_0_size, eI cI 5 (I_0u8 3)), (h_0_hidden, eI cI 5 (I_0u8 4)), (h_0_cell, eI cI 2 (I_0u8 5)), (h_0_home, eI cI 4 (I_0u8 6)), (h_0_waste, eI cI 8 (I_0u8 7)), (h_0_stock, eI cI 8 (I_0u8 8)), (h_0_past, eJ cJ 1616 (L_0 1)), (h_0_start, eJ cJ 8 (L_0 2)), (h_0_known, eJ cJ 3216 (L_0 3)), (h_0_sorted, eJ cJ 3216 (L_0 4)), (h_0_row, eI cI 16 (I_0u8 9)), (h_0_best, eJ cJ 8 (L_0 5))]) hx hb hK hS 6 rfl rfl hi9 dX6_take_34 (by rw [eI_0u8]; rfl) (fun H locs hS => ?_)
      refine lv_iload_n hx hb dX6_take_35 rfl (lv_at hl 0 rfl) ?_
      have e9_0 := Option.some.inj hF
      obtain ⟨f9_0, e9_1⟩ := Prod.mk.inj e9_0
      obtain ⟨f9_1, e9_2⟩ := Prod.mk.inj e9_1
      subst f9_0
      subst f9_1
      subst e9_2
      exact kret _ _ _ _ hS dX6_take_36
  · replace hF := ifn hF c_1
    refine lv_aload_n hx hb dX6_take_5 rfl (lv_at hl 0 rfl) ?_
    refine lv_iload_n hx hb dX6_take_6 rfl (lv_at hl 1 rfl) ?_
    replace hF := cal3_e hF
    obtain ⟨x10, I_0u11, L_0u12, hc13, hF⟩ := hF
    refine kV_i (As := [.int v1]) (rest := []) (wr := []) (w2 := [(h_0, oX6 h_0_of h_0_kept h_0_column h_0_size h_0_hidden h_0_cell h_0_home h_0_waste h_0_stock h_0_past h_0_start h_0_known h_0_sorted h_0_row h_0_best I_0u11), (h_0_of, eI cI 9 (I_0u11 1)), (h_0_kept, eI cI 9 (I_0u11 2)), (h_0_column, eJ cJ 5 (L_0u12 0)), (h_0_size, eI cI 5 (I_0u11 3)), (h_0_hidden, eI cI 5 (I_0u11 4)), (h_0_cell, eI cI 2 (I_0u11 5)), (h_0_home, eI cI 4 (I_0u11 6)), (h_0_waste, eI cI 8 (I_0u11 7)), (h_0_stock, eI cI 8 (I_0u11 8)), (h_0_past, eJ cJ 1616 (L_0u12 1)), (h_0_start, eJ cJ 8 (L_0u12 2)), (h_0_known, eJ cJ 3216 (L_0u12 3)), (h_0_sorted, eJ cJ 3216 (L_0u12 4)), (h_0_row, eI cI 16 (I_0u11 9)), (h_0_best, eJ cJ 8 (L_0u12 5))]) hCF hK (c_X6_pop l D cI cJ h_0 h_0_of h_0_kept h_0_column h_0_size h_0_hidden h_0_cell h_0_home h_0_waste h_0_stock h_0_past h_0_start h_0_known h_0_sorted h_0_row h_0_best I_0 L_0 v1 x10 I_0u11 L_0u12 hc13) (cwV 1 hts (TBL_V mw_501 mw_502 mw_503 mw_5 mw_504) rfl rfl rfl pmX6_pop ⟨Nat.le_of_ble_eq_true rfl, Nat.le_of_ble_eq_true rfl⟩) hS hA [0, 1, 2, 3, 4, 5, 6, 7, 8, 9, 10, 11, 12, 13, 14, 15] [] rfl rfl rfl rfl (by decide) rfl rfl rfl hl.1 rfl (Nat.le_of_ble_eq_true rfl) ⟨Nat.zero_le _, Nat.zero_le _⟩ dX6_take_7 rfl (fun H locs hS => ?_)
    have e9_0 := Option.some.inj hF
    obtain ⟨f9_0, e9_1⟩ := Prod.mk.inj e9_0
    obtain ⟨f9_1, e9_2⟩ := Prod.mk.inj e9_1
    subst f9_0
    subst f9_1
    subst e9_2
    exact kret _ _ _ _ hS dX6_take_10
set_option maxHeartbeats 4000000 in
set_option maxRecDepth 100000 in
theorem c_X6_play (l : Launch) (D : va_G) (cI cJ : ClassId) (h_0 h_0_of h_0_kept h_0_column h_0_size h_0_hidden h_0_cell h_0_home h_0_waste h_0_stock h_0_past h_0_start h_0_known h_0_sorted h_0_row h_0_best : Nat) (I_0 : Nat → Nat → Int32) (L_0 : Nat → Nat → Int64) (v1 : Int32) (v2 : Int32) (v3 : Int32) (r_I_0 : Nat → Nat → Int32) (r_L_0 : Nat → Nat → Int64) (hF : F_X6_play I_0 L_0 v1 v2 v3 = some (r_I_0, r_L_0)) : CtV l D [(cI, .int), (cJ, .long)] yX6_play wtX6_play ({ frames := 3, cells := 0, slots := 0, locals := 66 } : Room) [.ref h_0, .int v1, .int v2, .int v3] [(h_0, oX6 h_0_of h_0_kept h_0_column h_0_size h_0_hidden h_0_cell h_0_home h_0_waste h_0_stock h_0_past h_0_start h_0_known h_0_sorted h_0_row h_0_best I_0), (h_0_of, eI cI 9 (I_0 1)), (h_0_kept, eI cI 9 (I_0 2)), (h_0_column, eJ cJ 5 (L_0 0)), (h_0_size, eI cI 5 (I_0 3)), (h_0_hidden, eI cI 5 (I_0 4)), (h_0_cell, eI cI 2 (I_0 5)), (h_0_home, eI cI 4 (I_0 6)), (h_0_waste, eI cI 8 (I_0 7)), (h_0_stock, eI cI 8 (I_0 8)), (h_0_past, eJ cJ 1616 (L_0 1)), (h_0_start, eJ cJ 8 (L_0 2)), (h_0_known, eJ cJ 3216 (L_0 3)), (h_0_sorted, eJ cJ 3216 (L_0 4)), (h_0_row, eI cI 16 (I_0 9)), (h_0_best, eJ cJ 8 (L_0 5))] [(h_0, oX6 h_0_of h_0_kept h_0_column h_0_size h_0_hidden h_0_cell h_0_home h_0_waste h_0_stock h_0_past h_0_start h_0_known h_0_sorted h_0_row h_0_best r_I_0), (h_0_of, eI cI 9 (r_I_0 1)), (h_0_kept, eI cI 9 (r_I_0 2)), (h_0_column, eJ cJ 5 (r_L_0 0)), (h_0_size, eI cI 5 (r_I_0 3)), (h_0_hidden, eI cI 5 (r_I_0 4)), (h_0_cell, eI cI 2 (r_I_0 5)), (h_0_home, eI cI 4 (r_I_0 6)), (h_0_waste, eI cI 8 (r_I_0 7)), (h_0_stock, eI cI 8 (r_I_0 8)), (h_0_past, eJ cJ 1616 (r_L_0 1)), (h_0_start, eJ cJ 8 (r_L_0 2)), (h_0_known, eJ cJ 3216 (r_L_0 3)), (h_0_sorted, eJ cJ 3216 (r_L_0 4)), (h_0_row, eI cI 16 (r_I_0 9)), (h_0_best, eJ cJ 8 (r_L_0 5))] := by
  refine CtV.of (cc := cX6_play) (maxL := 6) (by decide) rfl (Nat.le_of_ble_eq_true rfl) ?_
  intro p e s m args below meth c A H0 Q ls X hS hl kret
  have hCF := X.1
  obtain ⟨⟨hx, hb, hml, hown, hts⟩, hK, hA⟩ := X
  have hl : lv_has ls 6 [(0, .ref h_0), (1, .int v1), (2, .int v2), (3, .int v3)] := hl
  have q0 := hts (.fieldLink RX6 66 "PatienceryModel" "row" "[I") (List.mem_cons_of_mem _ mw_174)
  have inX6 : ∀ w ∈ u_ws RX6 TX6 32, w ∈ wtX6_play := fun w h => List.mem_cons_of_mem _ (inlX6 w h)
  have q2 := hts (.fieldLink RX6 42 "PatienceryModel" "cell" "[I") (List.mem_cons_of_mem _ mw_166)
  have q3 := hts (.fieldLink RX6 45 "PatienceryModel" "home" "[I") (List.mem_cons_of_mem _ mw_167)
  have S43 : ∀ (K43 : (Nat → Nat → Int32) → (Nat → Nat → Int64) → Int32 → Int32 → Option ((Nat → Nat → Int32) × (Nat → Nat → Int64))) (_ : ∀ (I_0 : Nat → Nat → Int32) (L_0 : Nat → Nat → Int64) (v2 : Int32) (v4 : Int32) (H : Heap) (locs : List Loc) (ls : Array Slot), HS D A H0 [(h_0, oX6 h_0_of h_0_kept h_0_column h_0_size h_0_hidden h_0_cell h_0_home h_0_waste h_0_stock h_0_past h_0_start h_0_known h_0_sorted h_0_row h_0_best I_0), (h_0_of, eI cI 9 (I_0 1)), (h_0_kept, eI cI 9 (I_0 2)), (h_0_column, eJ cJ 5 (L_0 0)), (h_0_size, eI cI 5 (I_0 3)), (h_0_hidden, eI cI 5 (I_0 4)), (h_0_cell, eI cI 2 (I_0 5)), (h_0_home, eI cI 4 (I_0 6)), (h_0_waste, eI cI 8 (I_0 7)), (h_0_stock, eI cI 8 (I_0 8)), (h_0_past, eJ cJ 1616 (L_0 1)), (h_0_start, eJ cJ 8 (L_0 2)), (h_0_known, eJ cJ 3216 (L_0 3)), (h_0_sorted, eJ cJ 3216 (L_0 4)), (h_0_row, eI cI 16 (I_0 9)), (h_0_best, eJ cJ 8 (L_0 5))] H locs → lv_has ls 6 [(0, .ref h_0), (2, .int v2), (4, .int v4)] → K43 I_0 L_0 v2 v4 = some (r_I_0, r_L_0) → W p l e ({ frames := 3, cells := 0, slots := 0, locals := 66 } : Room) s m args below meth c H locs 0 0 Q (F0 m 43 ls [])) (I_0 : Nat → Nat → Int32) (L_0 : Nat → Nat → Int64) (v2 : Int32) (v4 : Int32) (H : Heap) (locs : List Loc) (ls : Array Slot), HS D A H0 [(h_0, oX6 h_0_of h_0_kept h_0_column h_0_size h_0_hidden h_0_cell h_0_home h_0_waste h_0_stock h_0_past h_0_start h_0_known h_0_sorted h_0_row h_0_best I_0), (h_0_of, eI cI 9 (I_0 1)), (h_0_kept, eI cI 9 (I_0 2)), (h_0_column, eJ cJ 5 (L_0 0)), (h_0_size, eI cI 5 (I_0 3)), (h_0_hidden, eI cI 5 (I_0 4)), (h_0_cell, eI cI 2 (I_0 5)), (h_0_home, eI cI 4 (I_0 6)), (h_0_waste, eI cI 8 (I_0 7)), (h_0_stock, eI cI 8 (I_0 8)), (h_0_past, eJ cJ 1616 (L_0 1)), (h_0_start, eJ cJ 8 (L_0 2)), (h_0_known, eJ cJ 3216 (L_0 3)), (h_0_sorted, eJ cJ 3216 (L_0 4)), (h_0_row, eI cI 16 (I_0 9)), (h_0_best, eJ cJ 8 (L_0 5))] H locs → lv_has ls 6 [(0, .ref h_0), (2, .int v2), (4, .int v4)] → F_X6_play_s43  K43 I_0 L_0 v2 v4 = some (r_I_0, r_L_0) → W p l e ({ frames := 3, cells := 0, slots := 0, locals := 66 } : Room) s m args below meth c H locs 0 0 Q (F0 m 43 ls []) := by
    intro K43 hK43 I_0 L_0 v2 v4 H locs ls hS hl hF
    unfold F_X6_play_s43 at hF
    refine lv_iload hx hb dX6_play_43 (lv_at hl 2 rfl) ?_
    refine lv_if_lt (tgt := 112) hx hb dX6_play_45 (by decide) (fun c_1 => ?_) (fun c_1 => ?_)
    · replace hF := ifp hF c_1
      have e9_0 := Option.some.inj hF
      obtain ⟨f9_0, e9_1⟩ := Prod.mk.inj e9_0
      subst f9_0
      subst e9_1
      exact kret _ _ _ _ hS dX6_play_112
    · replace hF := ifn hF c_1
      refine lv_aload_n hx hb dX6_play_48 rfl (lv_at hl 0 rfl) ?_
      refine r_get hx hb hts inX6 hown hK hS 0 30 rfl rfl (by decide) q0 rfl dX6_play_49 ?_
      refine lv_iload hx hb dX6_play_52 (lv_at hl 2 rfl) ?_
      replace hF := rdA_e hF
      obtain ⟨hi3, x2, ex2, hF⟩ := hF
      refine r_iald hx hb hK hS 14 rfl rfl hi3 dX6_play_54 ex2 ?_
      refine lv_istore (lv' := [(5, .int x2), (0, .ref h_0), (2, .int v2), (4, .int v4)]) hx hb dX6_play_55 hl (by decide) rfl (fun ls hl => ?_)
      refine lv_iload_n hx hb dX6_play_57 rfl (lv_at hl 2 rfl) ?_
      refine lv_iconst (v := (nI 5)) hx hb dX6_play_58 (by decide) ?_
      refine lv_icmp_ge (tgt := 72) hx hb dX6_play_59 (by decide) (fun c_4 => ?_) (fun c_4 => ?_)
      · replace hF := ifp hF c_4
        refine lv_iload_n hx hb dX6_play_72 rfl (lv_at hl 2 rfl) ?_
        refine lv_bipush (v := (nI 8)) hx hb dX6_play_73 (by decide) ?_
        refine lv_icmp_ne (tgt := 96) hx hb dX6_play_75 (by decide) (fun c_5 => ?_) (fun c_5 => ?_)
        · replace hF := ifn hF c_5
          refine lv_aload_n hx hb dX6_play_96 rfl (lv_at hl 1 rfl) ?_
          refine r_get hx hb hts inX6 hown hK hS 0 18 rfl rfl (by decide) q2 rfl dX6_play_97 ?_
          refine lv_iload_n hx hb dX6_play_100 rfl (lv_at hl 2 rfl) ?_
          refine lv_iconst (v := (nI 5)) hx hb dX6_play_101 (by decide) ?_
          refine lv_isub hx hb dX6_play_102 ?_
          refine lv_iload hx hb dX6_play_103 (lv_at hl 0 rfl) ?_
          replace hF := wrA_e hF
          obtain ⟨hi7, I_0u6, eI_0u6, hF⟩ := hF
          refine r_iast (w2 := [(h_0, oX6 h_0_of h_0_kept h_0_column h_0_size h_0_hidden h_0_cell h_0_home h_0_waste h_0_stock h_0_past h_0_start h_0_known h_0_sorted h_0_row h_0_best I_0u6), (h_0_of, eI cI 9 (I_0u6 1)), (h_0_kept, eI cI 9 (I_0u6 2)), (h_0_column, eJ cJ 5 (L_0 0)), (h_0_size, eI cI 5 (I_0u6 3)), (h_0_hidden, eI cI 5 (I_0u6 4)), (h_0_cell, eI cI 2 (I_0u6 5)), (h_0_home, eI cI 4 (I_0u6 6)), (h_0_waste, eI cI 8 (I_0u6 7)), (h_0_stock, eI cI 8 (I_0u6 8)), (h_0_past, eJ cJ 1616 (L_0 1)), (h_0_start, eJ cJ 8 (L_0 2)), (h_0_known, eJ cJ 3216 (L_0 3)), (h_0_sorted, eJ cJ 3216 (L_0 4)), (h_0_row, eI cI 16 (I_0u6 9)), (h_0_best, eJ cJ 8 (L_0 5))]) hx hb hK hS 6 rfl rfl hi7 dX6_play_105 (by rw [eI_0u6]; rfl) (fun H locs hS => ?_)
          refine lv_iinc (v := v4 + (-1)) (lv' := [(4, .int (v4 + (-1))), (5, .int x2), (0, .ref h_0), (2, .int v2)]) hx hb dX6_play_106 hl (k := 3) rfl rfl (by decide) rfl (fun ls hl => ?_)
          refine lv_goto (tgt := 43) hx hb dX6_play_109 (by decide) ?_
          exact hK43 I_0u6 L_0 v2 (v4 + (-1)) _ _ _ hS (lv_sub hl [2, 3, 0] rfl) hF
        · replace hF := ifp hF c_5
          refine lv_aload_n hx hb dX6_play_78 rfl (lv_at hl 1 rfl) ?_
          refine r_get hx hb hts inX6 hown hK hS 0 19 rfl rfl (by decide) q3 rfl dX6_play_79 ?_
          refine lv_aload_n hx hb dX6_play_82 rfl (lv_at hl 1 rfl) ?_
          refine lv_iload hx hb dX6_play_83 (lv_at hl 0 rfl) ?_
          replace hF := cal1_e hF
          obtain ⟨x8, hc9, hF⟩ := hF
          refine kV_i (As := [.int x2]) (rest := [.ref h_0_home]) (wr := []) (w2 := [(h_0, oX6 h_0_of h_0_kept h_0_column h_0_size h_0_hidden h_0_cell h_0_home h_0_waste h_0_stock h_0_past h_0_start h_0_known h_0_sorted h_0_row h_0_best I_0), (h_0_of, eI cI 9 (I_0 1)), (h_0_kept, eI cI 9 (I_0 2)), (h_0_column, eJ cJ 5 (L_0 0)), (h_0_size, eI cI 5 (I_0 3)), (h_0_hidden, eI cI 5 (I_0 4)), (h_0_cell, eI cI 2 (I_0 5)), (h_0_home, eI cI 4 (I_0 6)), (h_0_waste, eI cI 8 (I_0 7)), (h_0_stock, eI cI 8 (I_0 8)), (h_0_past, eJ cJ 1616 (L_0 1)), (h_0_start, eJ cJ 8 (L_0 2)), (h_0_known, eJ cJ 3216 (L_0 3)), (h_0_sorted, eJ cJ 3216 (L_0 4)), (h_0_row, eI cI 16 (I_0 9)), (h_0_best, eJ cJ 8 (L_0 5))]) hCF hK (c_X6_suitOf l D cI cJ h_0 h_0_of h_0_kept h_0_column h_0_size h_0_hidden h_0_cell h_0_home h_0_waste h_0_stock h_0_past h_0_start h_0_known h_0_sorted h_0_row h_0_best I_0 L_0 x2 x8 hc9) (cwV 1 hts (TBL_V mw_469 mw_470 mw_471 mw_5 mw_472) rfl rfl rfl pmX6_suitOf ⟨Nat.le_of_ble_eq_true rfl, Nat.le_of_ble_eq_true rfl⟩) hS hA [0, 1, 2, 3, 4, 5, 6, 7, 8, 9, 10, 11, 12, 13, 14, 15] [] rfl rfl rfl rfl (by decide) rfl rfl rfl hl.1 rfl (Nat.le_of_ble_eq_true rfl) ⟨Nat.zero_le _, Nat.zero_le _⟩ dX6_play_85 rfl (fun H locs hS => ?_)
          refine lv_dup2_11 hx hb dX6_play_88 rfl rfl ?_
          replace hF := rdA_e hF
          obtain ⟨hi11, x10, ex10, hF⟩ := hF
          refine r_iald hx hb hK hS 7 rfl rfl hi11 dX6_play_89 ex10 ?_
          refine lv_iconst (v := (nI 1)) hx hb dX6_play_90 (by decide) ?_
          refine lv_iadd hx hb dX6_play_91 ?_
          replace hF := wrA_e hF
          obtain ⟨hi13, I_0u12, eI_0u12, hF⟩ := hF
          refine r_iast (w2 := [(h_0, oX6 h_0_of h_0_kept h_0_column h_0_size h_0_hidden h_0_cell h_0_home h_0_waste h_0_stock h_0_past h_0_start h_0_known h_0_sorted h_0_row h_0_best I_0u12), (h_0_of, eI cI 9 (I_0u12 1)), (h_0_kept, eI cI 9 (I_0u12 2)), (h_0_column, eJ cJ 5 (L_0 0)), (h_0_size, eI cI 5 (I_0u12 3)), (h_0_hidden, eI cI 5 (I_0u12 4)), (h_0_cell, eI cI 2 (I_0u12 5)), (h_0_home, eI cI 4 (I_0u12 6)), (h_0_waste, eI cI 8 (I_0u12 7)), (h_0_stock, eI cI 8 (I_0u12 8)), (h_0_past, eJ cJ 1616 (L_0 1)), (h_0_start, eJ cJ 8 (L_0 2)), (h_0_known, eJ cJ 3216 (L_0 3)), (h_0_sorted, eJ cJ 3216 (L_0 4)), (h_0_row, eI cI 16 (I_0u12 9)), (h_0_best, eJ cJ 8 (L_0 5))]) hx hb hK hS 7 rfl rfl hi13 dX6_play_92 (by rw [eI_0u12]; rfl) (fun H locs hS => ?_)
          refine lv_goto (tgt := 106) hx hb dX6_play_93 (by decide) ?_
          refine lv_iinc (v := v4 + (-1)) (lv' := [(4, .int (v4 + (-1))), (5, .int x2), (0, .ref h_0), (2, .int v2)]) hx hb dX6_play_106 hl (k := 3) rfl rfl (by decide) rfl (fun ls hl => ?_)
          refine lv_goto (tgt := 43) hx hb dX6_play_109 (by decide) ?_
          exact hK43 I_0u12 L_0 v2 (v4 + (-1)) _ _ _ hS (lv_sub hl [2, 3, 0] rfl) hF
      · replace hF := ifn hF c_4
        refine lv_aload_n hx hb dX6_play_62 rfl (lv_at hl 1 rfl) ?_
        refine lv_iload_n hx hb dX6_play_63 rfl (lv_at hl 2 rfl) ?_
        refine lv_iload hx hb dX6_play_64 (lv_at hl 0 rfl) ?_
        replace hF := cal2_e hF
        obtain ⟨I_0u14, L_0u15, hc16, hF⟩ := hF
        refine kV_v (As := [.int v2, .int x2]) (rest := []) (wr := []) (w2 := [(h_0, oX6 h_0_of h_0_kept h_0_column h_0_size h_0_hidden h_0_cell h_0_home h_0_waste h_0_stock h_0_past h_0_start h_0_known h_0_sorted h_0_row h_0_best I_0u14), (h_0_of, eI cI 9 (I_0u14 1)), (h_0_kept, eI cI 9 (I_0u14 2)), (h_0_column, eJ cJ 5 (L_0u15 0)), (h_0_size, eI cI 5 (I_0u14 3)), (h_0_hidden, eI cI 5 (I_0u14 4)), (h_0_cell, eI cI 2 (I_0u14 5)), (h_0_home, eI cI 4 (I_0u14 6)), (h_0_waste, eI cI 8 (I_0u14 7)), (h_0_stock, eI cI 8 (I_0u14 8)), (h_0_past, eJ cJ 1616 (L_0u15 1)), (h_0_start, eJ cJ 8 (L_0u15 2)), (h_0_known, eJ cJ 3216 (L_0u15 3)), (h_0_sorted, eJ cJ 3216 (L_0u15 4)), (h_0_row, eI cI 16 (I_0u14 9)), (h_0_best, eJ cJ 8 (L_0u15 5))]) hCF hK (c_X6_push l D cI cJ h_0 h_0_of h_0_kept h_0_column h_0_size h_0_hidden h_0_cell h_0_home h_0_waste h_0_stock h_0_past h_0_start h_0_known h_0_sorted h_0_row h_0_best I_0 L_0 v2 x2 I_0u14 L_0u15 hc16) (cwV 2 hts (TBL_V mw_205 mw_206 mw_207 mw_5 mw_208) rfl rfl rfl pmX6_push ⟨Nat.le_of_ble_eq_true rfl, Nat.le_of_ble_eq_true rfl⟩) hS hA [0, 1, 2, 3, 4, 5, 6, 7, 8, 9, 10, 11, 12, 13, 14, 15] [] rfl rfl rfl rfl (by decide) rfl rfl rfl hl.1 rfl (Nat.le_of_ble_eq_true rfl) ⟨Nat.zero_le _, Nat.zero_le _⟩ dX6_play_66 rfl (fun H locs hS => ?_)
        refine lv_goto (tgt := 106) hx hb dX6_play_69 (by decide) ?_
        refine lv_iinc (v := v4 + (-1)) (lv' := [(4, .int (v4 + (-1))), (5, .int x2), (0, .ref h_0), (2, .int v2)]) hx hb dX6_play_106 hl (k := 3) rfl rfl (by decide) rfl (fun ls hl => ?_)
        refine lv_goto (tgt := 43) hx hb dX6_play_109 (by decide) ?_
        exact hK43 I_0u14 L_0u15 v2 (v4 + (-1)) _ _ _ hS (lv_sub hl [2, 3, 0] rfl) hF
  have L43 : ∀  (n : Nat) (I_0 : Nat → Nat → Int32) (L_0 : Nat → Nat → Int64) (v2 : Int32) (v4 : Int32) (H : Heap) (locs : List Loc) (ls : Array Slot), HS D A H0 [(h_0, oX6 h_0_of h_0_kept h_0_column h_0_size h_0_hidden h_0_cell h_0_home h_0_waste h_0_stock h_0_past h_0_start h_0_known h_0_sorted h_0_row h_0_best I_0), (h_0_of, eI cI 9 (I_0 1)), (h_0_kept, eI cI 9 (I_0 2)), (h_0_column, eJ cJ 5 (L_0 0)), (h_0_size, eI cI 5 (I_0 3)), (h_0_hidden, eI cI 5 (I_0 4)), (h_0_cell, eI cI 2 (I_0 5)), (h_0_home, eI cI 4 (I_0 6)), (h_0_waste, eI cI 8 (I_0 7)), (h_0_stock, eI cI 8 (I_0 8)), (h_0_past, eJ cJ 1616 (L_0 1)), (h_0_start, eJ cJ 8 (L_0 2)), (h_0_known, eJ cJ 3216 (L_0 3)), (h_0_sorted, eJ cJ 3216 (L_0 4)), (h_0_row, eI cI 16 (I_0 9)), (h_0_best, eJ cJ 8 (L_0 5))] H locs → lv_has ls 6 [(0, .ref h_0), (2, .int v2), (4, .int v4)] → F_X6_play_L43   n I_0 L_0 v2 v4 = some (r_I_0, r_L_0) → W p l e ({ frames := 3, cells := 0, slots := 0, locals := 66 } : Room) s m args below meth c H locs 0 0 Q (F0 m 43 ls []) := by
    intro  n
    induction n with
    | zero => intro I_0 L_0 v2 v4 H locs ls hS hl hF; exact nomatch (show (none : Option ((Nat → Nat → Int32) × (Nat → Nat → Int64))) = some _ from hF)
    | succ n ih => intro I_0 L_0 v2 v4 H locs ls hS hl hF; exact S43  _ ih I_0 L_0 v2 v4 H locs ls hS hl hF
  have B38 : ∀ (I_0 : Nat → Nat → Int32) (L_0 : Nat → Nat → Int64) (v2 : Int32) (v3 : Int32) (H : Heap) (locs : List Loc) (ls : Array Slot), HS D A H0 [(h_0, oX6 h_0_of h_0_kept h_0_column h_0_size h_0_hidden h_0_cell h_0_home h_0_waste h_0_stock h_0_past h_0_start h_0_known h_0_sorted h_0_row h_0_best I_0), (h_0_of, eI cI 9 (I_0 1)), (h_0_kept, eI cI 9 (I_0 2)), (h_0_column, eJ cJ 5 (L_0 0)), (h_0_size, eI cI 5 (I_0 3)), (h_0_hidden, eI cI 5 (I_0 4)), (h_0_cell, eI cI 2 (I_0 5)), (h_0_home, eI cI 4 (I_0 6)), (h_0_waste, eI cI 8 (I_0 7)), (h_0_stock, eI cI 8 (I_0 8)), (h_0_past, eJ cJ 1616 (L_0 1)), (h_0_start, eJ cJ 8 (L_0 2)), (h_0_known, eJ cJ 3216 (L_0 3)), (h_0_sorted, eJ cJ 3216 (L_0 4)), (h_0_row, eI cI 16 (I_0 9)), (h_0_best, eJ cJ 8 (L_0 5))] H locs → lv_has ls 6 [(0, .ref h_0), (2, .int v2), (3, .int v3)] → F_X6_play_b38   I_0 L_0 v2 v3 = some (r_I_0, r_L_0) → W p l e ({ frames := 3, cells := 0, slots := 0, locals := 66 } : Room) s m args below meth c H locs 0 0 Q (F0 m 38 ls []) := by
    intro I_0 L_0 v2 v3 H locs ls hS hl hF
    unfold F_X6_play_b38 at hF
    refine lv_iload_n hx hb dX6_play_38 rfl (lv_at hl 2 rfl) ?_
    refine lv_iconst (v := (nI 1)) hx hb dX6_play_39 (by decide) ?_
    refine lv_isub hx hb dX6_play_40 ?_
    refine lv_istore (lv' := [(4, .int (v3 - (nI 1))), (0, .ref h_0), (2, .int v2), (3, .int v3)]) hx hb dX6_play_41 hl (by decide) rfl (fun ls hl => ?_)
    exact L43 FU I_0 L_0 v2 (v3 - (nI 1)) _ _ _ hS (lv_sub hl [1, 2, 0] rfl) hF
  have S14 : ∀ (K14 : (Nat → Nat → Int32) → (Nat → Nat → Int64) → Int32 → Int32 → Int32 → Int32 → Option ((Nat → Nat → Int32) × (Nat → Nat → Int64))) (_ : ∀ (I_0 : Nat → Nat → Int32) (L_0 : Nat → Nat → Int64) (v1 : Int32) (v2 : Int32) (v3 : Int32) (v4 : Int32) (H : Heap) (locs : List Loc) (ls : Array Slot), HS D A H0 [(h_0, oX6 h_0_of h_0_kept h_0_column h_0_size h_0_hidden h_0_cell h_0_home h_0_waste h_0_stock h_0_past h_0_start h_0_known h_0_sorted h_0_row h_0_best I_0), (h_0_of, eI cI 9 (I_0 1)), (h_0_kept, eI cI 9 (I_0 2)), (h_0_column, eJ cJ 5 (L_0 0)), (h_0_size, eI cI 5 (I_0 3)), (h_0_hidden, eI cI 5 (I_0 4)), (h_0_cell, eI cI 2 (I_0 5)), (h_0_home, eI cI 4 (I_0 6)), (h_0_waste, eI cI 8 (I_0 7)), (h_0_stock, eI cI 8 (I_0 8)), (h_0_past, eJ cJ 1616 (L_0 1)), (h_0_start, eJ cJ 8 (L_0 2)), (h_0_known, eJ cJ 3216 (L_0 3)), (h_0_sorted, eJ cJ 3216 (L_0 4)), (h_0_row, eI cI 16 (I_0 9)), (h_0_best, eJ cJ 8 (L_0 5))] H locs → lv_has ls 6 [(0, .ref h_0), (1, .int v1), (2, .int v2), (3, .int v3), (4, .int v4)] → K14 I_0 L_0 v1 v2 v3 v4 = some (r_I_0, r_L_0) → W p l e ({ frames := 3, cells := 0, slots := 0, locals := 66 } : Room) s m args below meth c H locs 0 0 Q (F0 m 14 ls [])) (I_0 : Nat → Nat → Int32) (L_0 : Nat → Nat → Int64) (v1 : Int32) (v2 : Int32) (v3 : Int32) (v4 : Int32) (H : Heap) (locs : List Loc) (ls : Array Slot), HS D A H0 [(h_0, oX6 h_0_of h_0_kept h_0_column h_0_size h_0_hidden h_0_cell h_0_home h_0_waste h_0_stock h_0_past h_0_start h_0_known h_0_sorted h_0_row h_0_best I_0), (h_0_of, eI cI 9 (I_0 1)), (h_0_kept, eI cI 9 (I_0 2)), (h_0_column, eJ cJ 5 (L_0 0)), (h_0_size, eI cI 5 (I_0 3)), (h_0_hidden, eI cI 5 (I_0 4)), (h_0_cell, eI cI 2 (I_0 5)), (h_0_home, eI cI 4 (I_0 6)), (h_0_waste, eI cI 8 (I_0 7)), (h_0_stock, eI cI 8 (I_0 8)), (h_0_past, eJ cJ 1616 (L_0 1)), (h_0_start, eJ cJ 8 (L_0 2)), (h_0_known, eJ cJ 3216 (L_0 3)), (h_0_sorted, eJ cJ 3216 (L_0 4)), (h_0_row, eI cI 16 (I_0 9)), (h_0_best, eJ cJ 8 (L_0 5))] H locs → lv_has ls 6 [(0, .ref h_0), (1, .int v1), (2, .int v2), (3, .int v3), (4, .int v4)] → F_X6_play_s14  K14 I_0 L_0 v1 v2 v3 v4 = some (r_I_0, r_L_0) → W p l e ({ frames := 3, cells := 0, slots := 0, locals := 66 } : Room) s m args below meth c H locs 0 0 Q (F0 m 14 ls []) := by
    intro K14 hK14 I_0 L_0 v1 v2 v3 v4 H locs ls hS hl hF
    unfold F_X6_play_s14 at hF
    refine lv_iload hx hb dX6_play_14 (lv_at hl 4 rfl) ?_
    refine lv_iload_n hx hb dX6_play_16 rfl (lv_at hl 3 rfl) ?_
    refine lv_icmp_ge (tgt := 38) hx hb dX6_play_17 (by decide) (fun c_17 => ?_) (fun c_17 => ?_)
    · replace hF := ifp hF c_17
      exact B38 I_0 L_0 v2 v3 _ _ _ hS (lv_sub hl [0, 2, 3] rfl) hF
    · replace hF := ifn hF c_17
      refine lv_aload_n hx hb dX6_play_20 rfl (lv_at hl 0 rfl) ?_
      refine r_get hx hb hts inX6 hown hK hS 0 30 rfl rfl (by decide) q0 rfl dX6_play_21 ?_
      refine lv_iload hx hb dX6_play_24 (lv_at hl 4 rfl) ?_
      refine lv_aload_n hx hb dX6_play_26 rfl (lv_at hl 0 rfl) ?_
      refine lv_iload_n hx hb dX6_play_27 rfl (lv_at hl 1 rfl) ?_
      replace hF := cal3_e hF
      obtain ⟨x18, I_0u19, L_0u20, hc21, hF⟩ := hF
      refine kV_i (As := [.int v1]) (rest := [.int v4, .ref h_0_row]) (wr := []) (w2 := [(h_0, oX6 h_0_of h_0_kept h_0_column h_0_size h_0_hidden h_0_cell h_0_home h_0_waste h_0_stock h_0_past h_0_start h_0_known h_0_sorted h_0_row h_0_best I_0u19), (h_0_of, eI cI 9 (I_0u19 1)), (h_0_kept, eI cI 9 (I_0u19 2)), (h_0_column, eJ cJ 5 (L_0u20 0)), (h_0_size, eI cI 5 (I_0u19 3)), (h_0_hidden, eI cI 5 (I_0u19 4)), (h_0_cell, eI cI 2 (I_0u19 5)), (h_0_home, eI cI 4 (I_0u19 6)), (h_0_waste, eI cI 8 (I_0u19 7)), (h_0_stock, eI cI 8 (I_0u19 8)), (h_0_past, eJ cJ 1616 (L_0u20 1)), (h_0_start, eJ cJ 8 (L_0u20 2)), (h_0_known, eJ cJ 3216 (L_0u20 3)), (h_0_sorted, eJ cJ 3216 (L_0u20 4)), (h_0_row, eI cI 16 (I_0u19 9)), (h_0_best, eJ cJ 8 (L_0u20 5))]) hCF hK (c_X6_take l D cI cJ h_0 h_0_of h_0_kept h_0_column h_0_size h_0_hidden h_0_cell h_0_home h_0_waste h_0_stock h_0_past h_0_start h_0_known h_0_sorted h_0_row h_0_best I_0 L_0 v1 x18 I_0u19 L_0u20 hc21) (cwV 1 hts (TBL_V mw_497 mw_498 mw_499 mw_5 mw_500) rfl rfl rfl pmX6_take ⟨Nat.le_of_ble_eq_true rfl, Nat.le_of_ble_eq_true rfl⟩) hS hA [0, 1, 2, 3, 4, 5, 6, 7, 8, 9, 10, 11, 12, 13, 14, 15] [] rfl rfl rfl rfl (by decide) rfl rfl rfl hl.1 rfl (Nat.le_of_ble_eq_true rfl) ⟨Nat.zero_le _, Nat.zero_le _⟩ dX6_play_28 rfl (fun H locs hS => ?_)
      replace hF := wrA_e hF
      obtain ⟨hi23, I_0u22, eI_0u22, hF⟩ := hF
      refine r_iast (w2 := [(h_0, oX6 h_0_of h_0_kept h_0_column h_0_size h_0_hidden h_0_cell h_0_home h_0_waste h_0_stock h_0_past h_0_start h_0_known h_0_sorted h_0_row h_0_best I_0u22), (h_0_of, eI cI 9 (I_0u22 1)), (h_0_kept, eI cI 9 (I_0u22 2)), (h_0_column, eJ cJ 5 (L_0u20 0)), (h_0_size, eI cI 5 (I_0u22 3)), (h_0_hidden, eI cI 5 (I_0u22 4)), (h_0_cell, eI cI 2 (I_0u22 5)), (h_0_home, eI cI 4 (I_0u22 6)), (h_0_waste, eI cI 8 (I_0u22 7)), (h_0_stock, eI cI 8 (I_0u22 8)), (h_0_past, eJ cJ 1616 (L_0u20 1)), (h_0_start, eJ cJ 8 (L_0u20 2)), (h_0_known, eJ cJ 3216 (L_0u20 3)), (h_0_sorted, eJ cJ 3216 (L_0u20 4)), (h_0_row, eI cI 16 (I_0u22 9)), (h_0_best, eJ cJ 8 (L_0u20 5))]) hx hb hK hS 14 rfl rfl hi23 dX6_play_31 (by rw [eI_0u22]; rfl) (fun H locs hS => ?_)
      refine lv_iinc (v := v4 + (nI 1)) (lv' := [(4, .int (v4 + (nI 1))), (0, .ref h_0), (1, .int v1), (2, .int v2), (3, .int v3)]) hx hb dX6_play_32 hl (k := 4) rfl rfl (by decide) rfl (fun ls hl => ?_)
      refine lv_goto (tgt := 14) hx hb dX6_play_35 (by decide) ?_
      exact hK14 I_0u22 L_0u20 v1 v2 v3 (v4 + (nI 1)) _ _ _ hS (lv_sub hl [1, 2, 3, 4, 0] rfl) hF
  have L14 : ∀  (n : Nat) (I_0 : Nat → Nat → Int32) (L_0 : Nat → Nat → Int64) (v1 : Int32) (v2 : Int32) (v3 : Int32) (v4 : Int32) (H : Heap) (locs : List Loc) (ls : Array Slot), HS D A H0 [(h_0, oX6 h_0_of h_0_kept h_0_column h_0_size h_0_hidden h_0_cell h_0_home h_0_waste h_0_stock h_0_past h_0_start h_0_known h_0_sorted h_0_row h_0_best I_0), (h_0_of, eI cI 9 (I_0 1)), (h_0_kept, eI cI 9 (I_0 2)), (h_0_column, eJ cJ 5 (L_0 0)), (h_0_size, eI cI 5 (I_0 3)), (h_0_hidden, eI cI 5 (I_0 4)), (h_0_cell, eI cI 2 (I_0 5)), (h_0_home, eI cI 4 (I_0 6)), (h_0_waste, eI cI 8 (I_0 7)), (h_0_stock, eI cI 8 (I_0 8)), (h_0_past, eJ cJ 1616 (L_0 1)), (h_0_start, eJ cJ 8 (L_0 2)), (h_0_known, eJ cJ 3216 (L_0 3)), (h_0_sorted, eJ cJ 3216 (L_0 4)), (h_0_row, eI cI 16 (I_0 9)), (h_0_best, eJ cJ 8 (L_0 5))] H locs → lv_has ls 6 [(0, .ref h_0), (1, .int v1), (2, .int v2), (3, .int v3), (4, .int v4)] → F_X6_play_L14   n I_0 L_0 v1 v2 v3 v4 = some (r_I_0, r_L_0) → W p l e ({ frames := 3, cells := 0, slots := 0, locals := 66 } : Room) s m args below meth c H locs 0 0 Q (F0 m 14 ls []) := by
    intro  n
    induction n with
    | zero => intro I_0 L_0 v1 v2 v3 v4 H locs ls hS hl hF; exact nomatch (show (none : Option ((Nat → Nat → Int32) × (Nat → Nat → Int64))) = some _ from hF)
    | succ n ih => intro I_0 L_0 v1 v2 v3 v4 H locs ls hS hl hF; exact S14  _ ih I_0 L_0 v1 v2 v3 v4 H locs ls hS hl hF
  unfold F_X6_play at hF
  refine lv_iload_n hx hb dX6_play_0 rfl (lv_at hl 1 rfl) ?_
  refine lv_bipush (v := (nI 9)) hx hb dX6_play_1 (by decide) ?_
  refine lv_icmp_ne (tgt := 11) hx hb dX6_play_3 (by decide) (fun c_24 => ?_) (fun c_24 => ?_)
  · replace hF := ifn hF c_24
    refine lv_iconst (v := (nI 0)) hx hb dX6_play_11 (by decide) ?_
    refine lv_istore (lv' := [(4, .int (nI 0)), (0, .ref h_0), (1, .int v1), (2, .int v2), (3, .int v3)]) hx hb dX6_play_12 hl (by decide) rfl (fun ls hl => ?_)
    exact L14 FU I_0 L_0 v1 v2 v3 (nI 0) _ _ _ hS (lv_sub hl [1, 2, 3, 4, 0] rfl) hF
  · replace hF := ifp hF c_24
    refine lv_aload_n hx hb dX6_play_6 rfl (lv_at hl 0 rfl) ?_
    replace hF := cal1_e hF
    obtain ⟨I_0u25, hc26, hF⟩ := hF
    refine kV_v (As := []) (rest := []) (wr := []) (w2 := [(h_0, oX6 h_0_of h_0_kept h_0_column h_0_size h_0_hidden h_0_cell h_0_home h_0_waste h_0_stock h_0_past h_0_start h_0_known h_0_sorted h_0_row h_0_best I_0u25), (h_0_of, eI cI 9 (I_0u25 1)), (h_0_kept, eI cI 9 (I_0u25 2)), (h_0_column, eJ cJ 5 (L_0 0)), (h_0_size, eI cI 5 (I_0u25 3)), (h_0_hidden, eI cI 5 (I_0u25 4)), (h_0_cell, eI cI 2 (I_0u25 5)), (h_0_home, eI cI 4 (I_0u25 6)), (h_0_waste, eI cI 8 (I_0u25 7)), (h_0_stock, eI cI 8 (I_0u25 8)), (h_0_past, eJ cJ 1616 (L_0 1)), (h_0_start, eJ cJ 8 (L_0 2)), (h_0_known, eJ cJ 3216 (L_0 3)), (h_0_sorted, eJ cJ 3216 (L_0 4)), (h_0_row, eI cI 16 (I_0u25 9)), (h_0_best, eJ cJ 8 (L_0 5))]) hCF hK (c_X6_turnStock l D cI cJ h_0 h_0_of h_0_kept h_0_column h_0_size h_0_hidden h_0_cell h_0_home h_0_waste h_0_stock h_0_past h_0_start h_0_known h_0_sorted h_0_row h_0_best L_0 I_0 I_0u25 hc26) (cwV 0 hts (TBL_V mw_493 mw_494 mw_495 mw_5 mw_496) rfl rfl rfl pmX6_turnStock ⟨Nat.le_of_ble_eq_true rfl, Nat.le_of_ble_eq_true rfl⟩) hS hA [0, 1, 2, 3, 4, 5, 6, 7, 8, 9, 10, 11, 12, 13, 14, 15] [] rfl rfl rfl rfl (by decide) rfl rfl rfl hl.1 rfl (Nat.le_of_ble_eq_true rfl) ⟨Nat.zero_le _, Nat.zero_le _⟩ dX6_play_7 rfl (fun H locs hS => ?_)
    have e9_0 := Option.some.inj hF
    obtain ⟨f9_0, e9_1⟩ := Prod.mk.inj e9_0
    subst f9_0
    subst e9_1
    exact kret _ _ _ _ hS dX6_play_10
set_option maxHeartbeats 4000000 in
set_option maxRecDepth 100000 in
theorem c_X6_isWon (l : Launch) (D : va_G) (cI cJ : ClassId) (h_0 h_0_of h_0_kept h_0_column h_0_size h_0_hidden h_0_cell h_0_home h_0_waste h_0_stock h_0_past h_0_start h_0_known h_0_sorted h_0_row h_0_best : Nat) (I_0 : Nat → Nat → Int32) (L_0 : Nat → Nat → Int64) (rv : Int32) (hF : F_X6_isWon I_0 L_0 = some rv) : CtI l D [(cI, .int), (cJ, .long)] yX6_isWon wtX6_isWon ({ frames := 1, cells := 0, slots := 0, locals := 20 } : Room) [.ref h_0] [(h_0, oX6 h_0_of h_0_kept h_0_column h_0_size h_0_hidden h_0_cell h_0_home h_0_waste h_0_stock h_0_past h_0_start h_0_known h_0_sorted h_0_row h_0_best I_0), (h_0_of, eI cI 9 (I_0 1)), (h_0_kept, eI cI 9 (I_0 2)), (h_0_column, eJ cJ 5 (L_0 0)), (h_0_size, eI cI 5 (I_0 3)), (h_0_hidden, eI cI 5 (I_0 4)), (h_0_cell, eI cI 2 (I_0 5)), (h_0_home, eI cI 4 (I_0 6)), (h_0_waste, eI cI 8 (I_0 7)), (h_0_stock, eI cI 8 (I_0 8)), (h_0_past, eJ cJ 1616 (L_0 1)), (h_0_start, eJ cJ 8 (L_0 2)), (h_0_known, eJ cJ 3216 (L_0 3)), (h_0_sorted, eJ cJ 3216 (L_0 4)), (h_0_row, eI cI 16 (I_0 9)), (h_0_best, eJ cJ 8 (L_0 5))] [(h_0, oX6 h_0_of h_0_kept h_0_column h_0_size h_0_hidden h_0_cell h_0_home h_0_waste h_0_stock h_0_past h_0_start h_0_known h_0_sorted h_0_row h_0_best I_0), (h_0_of, eI cI 9 (I_0 1)), (h_0_kept, eI cI 9 (I_0 2)), (h_0_column, eJ cJ 5 (L_0 0)), (h_0_size, eI cI 5 (I_0 3)), (h_0_hidden, eI cI 5 (I_0 4)), (h_0_cell, eI cI 2 (I_0 5)), (h_0_home, eI cI 4 (I_0 6)), (h_0_waste, eI cI 8 (I_0 7)), (h_0_stock, eI cI 8 (I_0 8)), (h_0_past, eJ cJ 1616 (L_0 1)), (h_0_start, eJ cJ 8 (L_0 2)), (h_0_known, eJ cJ 3216 (L_0 3)), (h_0_sorted, eJ cJ 3216 (L_0 4)), (h_0_row, eI cI 16 (I_0 9)), (h_0_best, eJ cJ 8 (L_0 5))] rv := by
  refine CtZ.of (cc := cX6_isWon) (maxL := 1) (by decide) rfl (Nat.le_of_ble_eq_true rfl) ?_
  intro p e s m args below meth c A H0 Q ls X hS hl kret
  have hCF := X.1
  obtain ⟨⟨hx, hb, hml, hown, hts⟩, hK, hA⟩ := X
  have hl : lv_has ls 1 [(0, .ref h_0)] := hl
  have q0 := hts (.fieldLink RX6 25 "PatienceryModel" "of" "[I") (List.mem_cons_of_mem _ mw_161)
  have inX6 : ∀ w ∈ u_ws RX6 TX6 32, w ∈ wtX6_isWon := fun w h => List.mem_cons_of_mem _ (inlX6 w h)
  unfold F_X6_isWon at hF
  refine lv_aload_n hx hb dX6_isWon_0 rfl (lv_at hl 0 rfl) ?_
  replace hF := cal1_e hF
  obtain ⟨x1, hc2, hF⟩ := hF
  refine kV_i (As := []) (rest := []) (wr := []) (w2 := [(h_0, oX6 h_0_of h_0_kept h_0_column h_0_size h_0_hidden h_0_cell h_0_home h_0_waste h_0_stock h_0_past h_0_start h_0_known h_0_sorted h_0_row h_0_best I_0), (h_0_of, eI cI 9 (I_0 1)), (h_0_kept, eI cI 9 (I_0 2)), (h_0_column, eJ cJ 5 (L_0 0)), (h_0_size, eI cI 5 (I_0 3)), (h_0_hidden, eI cI 5 (I_0 4)), (h_0_cell, eI cI 2 (I_0 5)), (h_0_home, eI cI 4 (I_0 6)), (h_0_waste, eI cI 8 (I_0 7)), (h_0_stock, eI cI 8 (I_0 8)), (h_0_past, eJ cJ 1616 (L_0 1)), (h_0_start, eJ cJ 8 (L_0 2)), (h_0_known, eJ cJ 3216 (L_0 3)), (h_0_sorted, eJ cJ 3216 (L_0 4)), (h_0_row, eI cI 16 (I_0 9)), (h_0_best, eJ cJ 8 (L_0 5))]) hCF hK (c_X6_atHome l D cI cJ h_0 h_0_of h_0_kept h_0_column h_0_size h_0_hidden h_0_cell h_0_home h_0_waste h_0_stock h_0_past h_0_start h_0_known h_0_sorted h_0_row h_0_best I_0 L_0 x1 hc2) (cwV 0 hts (TBL_V mw_311 mw_312 mw_313 mw_5 mw_314) rfl rfl rfl pmX6_atHome ⟨Nat.le_of_ble_eq_true rfl, Nat.le_of_ble_eq_true rfl⟩) hS hA [0, 1, 2, 3, 4, 5, 6, 7, 8, 9, 10, 11, 12, 13, 14, 15] [] rfl rfl rfl rfl (by decide) rfl rfl rfl hl.1 rfl (Nat.le_of_ble_eq_true rfl) ⟨Nat.zero_le _, Nat.zero_le _⟩ dX6_isWon_1 rfl (fun H locs hS => ?_)
  refine lv_aload_n hx hb dX6_isWon_4 rfl (lv_at hl 0 rfl) ?_
  refine r_get hx hb hts inX6 hown hK hS 0 10 rfl rfl (by decide) q0 rfl dX6_isWon_5 ?_
  refine lv_iconst (v := (nI 0)) hx hb dX6_isWon_8 (by decide) ?_
  replace hF := rdA_e hF
  obtain ⟨hi4, x3, ex3, hF⟩ := hF
  refine r_iald hx hb hK hS 1 rfl rfl hi4 dX6_isWon_9 ex3 ?_
  refine lv_aload_n hx hb dX6_isWon_10 rfl (lv_at hl 0 rfl) ?_
  refine r_get hx hb hts inX6 hown hK hS 0 10 rfl rfl (by decide) q0 rfl dX6_isWon_11 ?_
  refine lv_iconst (v := (nI 1)) hx hb dX6_isWon_14 (by decide) ?_
  replace hF := rdA_e hF
  obtain ⟨hi6, x5, ex5, hF⟩ := hF
  refine r_iald hx hb hK hS 1 rfl rfl hi6 dX6_isWon_15 ex5 ?_
  refine lv_imul hx hb dX6_isWon_16 ?_
  refine lv_icmp_ne (tgt := 24) hx hb dX6_isWon_17 (by decide) (fun c_7 => ?_) (fun c_7 => ?_)
  · replace hF := ifn hF c_7
    refine lv_iconst (v := (nI 0)) hx hb dX6_isWon_24 (by decide) ?_
    replace hF := zb_e hF
    obtain ⟨h01_8, hF⟩ := hF
    have e9_0 := Option.some.inj hF
    subst e9_0
    exact kret _ _ _ _ h01_8 hS dX6_isWon_25
  · replace hF := ifp hF c_7
    refine lv_iconst (v := (nI 1)) hx hb dX6_isWon_20 (by decide) ?_
    refine lv_goto (tgt := 25) hx hb dX6_isWon_21 (by decide) ?_
    replace hF := zb_e hF
    obtain ⟨h01_9, hF⟩ := hF
    have e9_0 := Option.some.inj hF
    subst e9_0
    exact kret _ _ _ _ h01_9 hS dX6_isWon_25
set_option maxHeartbeats 4000000 in
set_option maxRecDepth 100000 in
theorem c_X6_doMove (l : Launch) (D : va_G) (cI cJ : ClassId) (h_0 h_0_of h_0_kept h_0_column h_0_size h_0_hidden h_0_cell h_0_home h_0_waste h_0_stock h_0_past h_0_start h_0_known h_0_sorted h_0_row h_0_best : Nat) (I_0 : Nat → Nat → Int32) (L_0 : Nat → Nat → Int64) (v1 : Int32) (v2 : Int32) (v3 : Int32) (r_I_0 : Nat → Nat → Int32) (r_L_0 : Nat → Nat → Int64) (hF : F_X6_doMove I_0 L_0 v1 v2 v3 = some (r_I_0, r_L_0)) : CtV l D [(cI, .int), (cJ, .long)] yX6_doMove wtX6_doMove ({ frames := 4, cells := 0, slots := 0, locals := 91 } : Room) [.ref h_0, .int v1, .int v2, .int v3] [(h_0, oX6 h_0_of h_0_kept h_0_column h_0_size h_0_hidden h_0_cell h_0_home h_0_waste h_0_stock h_0_past h_0_start h_0_known h_0_sorted h_0_row h_0_best I_0), (h_0_of, eI cI 9 (I_0 1)), (h_0_kept, eI cI 9 (I_0 2)), (h_0_column, eJ cJ 5 (L_0 0)), (h_0_size, eI cI 5 (I_0 3)), (h_0_hidden, eI cI 5 (I_0 4)), (h_0_cell, eI cI 2 (I_0 5)), (h_0_home, eI cI 4 (I_0 6)), (h_0_waste, eI cI 8 (I_0 7)), (h_0_stock, eI cI 8 (I_0 8)), (h_0_past, eJ cJ 1616 (L_0 1)), (h_0_start, eJ cJ 8 (L_0 2)), (h_0_known, eJ cJ 3216 (L_0 3)), (h_0_sorted, eJ cJ 3216 (L_0 4)), (h_0_row, eI cI 16 (I_0 9)), (h_0_best, eJ cJ 8 (L_0 5))] [(h_0, oX6 h_0_of h_0_kept h_0_column h_0_size h_0_hidden h_0_cell h_0_home h_0_waste h_0_stock h_0_past h_0_start h_0_known h_0_sorted h_0_row h_0_best r_I_0), (h_0_of, eI cI 9 (r_I_0 1)), (h_0_kept, eI cI 9 (r_I_0 2)), (h_0_column, eJ cJ 5 (r_L_0 0)), (h_0_size, eI cI 5 (r_I_0 3)), (h_0_hidden, eI cI 5 (r_I_0 4)), (h_0_cell, eI cI 2 (r_I_0 5)), (h_0_home, eI cI 4 (r_I_0 6)), (h_0_waste, eI cI 8 (r_I_0 7)), (h_0_stock, eI cI 8 (r_I_0 8)), (h_0_past, eJ cJ 1616 (r_L_0 1)), (h_0_start, eJ cJ 8 (r_L_0 2)), (h_0_known, eJ cJ 3216 (r_L_0 3)), (h_0_sorted, eJ cJ 3216 (r_L_0 4)), (h_0_row, eI cI 16 (r_I_0 9)), (h_0_best, eJ cJ 8 (r_L_0 5))] := by
  refine CtV.of (cc := cX6_doMove) (maxL := 4) (by decide) rfl (Nat.le_of_ble_eq_true rfl) ?_
  intro p e s m args below meth c A H0 Q ls X hS hl kret
  have hCF := X.1
  obtain ⟨⟨hx, hb, hml, hown, hts⟩, hK, hA⟩ := X
  have hl : lv_has ls 4 [(0, .ref h_0), (1, .int v1), (2, .int v2), (3, .int v3)] := hl
  have q0 := hts (.fieldLink RX6 148 "PatienceryModel" "done" "I") (List.mem_cons_of_mem _ mw_305)
  have inX6 : ∀ w ∈ u_ws RX6 TX6 32, w ∈ wtX6_doMove := fun w h => List.mem_cons_of_mem _ (inlX6 w h)
  have q2 := hts (.fieldLink RX6 54 "PatienceryModel" "past" "[J") (List.mem_cons_of_mem _ mw_170)
  unfold F_X6_doMove at hF
  refine lv_aload_n hx hb dX6_doMove_0 rfl (lv_at hl 0 rfl) ?_
  refine lv_iload_n hx hb dX6_doMove_1 rfl (lv_at hl 1 rfl) ?_
  refine lv_iload_n hx hb dX6_doMove_2 rfl (lv_at hl 2 rfl) ?_
  refine lv_iload_n hx hb dX6_doMove_3 rfl (lv_at hl 3 rfl) ?_
  replace hF := cal2_e hF
  obtain ⟨I_0u1, L_0u2, hc3, hF⟩ := hF
  refine kV_v (As := [.int v1, .int v2, .int v3]) (rest := []) (wr := []) (w2 := [(h_0, oX6 h_0_of h_0_kept h_0_column h_0_size h_0_hidden h_0_cell h_0_home h_0_waste h_0_stock h_0_past h_0_start h_0_known h_0_sorted h_0_row h_0_best I_0u1), (h_0_of, eI cI 9 (I_0u1 1)), (h_0_kept, eI cI 9 (I_0u1 2)), (h_0_column, eJ cJ 5 (L_0u2 0)), (h_0_size, eI cI 5 (I_0u1 3)), (h_0_hidden, eI cI 5 (I_0u1 4)), (h_0_cell, eI cI 2 (I_0u1 5)), (h_0_home, eI cI 4 (I_0u1 6)), (h_0_waste, eI cI 8 (I_0u1 7)), (h_0_stock, eI cI 8 (I_0u1 8)), (h_0_past, eJ cJ 1616 (L_0u2 1)), (h_0_start, eJ cJ 8 (L_0u2 2)), (h_0_known, eJ cJ 3216 (L_0u2 3)), (h_0_sorted, eJ cJ 3216 (L_0u2 4)), (h_0_row, eI cI 16 (I_0u1 9)), (h_0_best, eJ cJ 8 (L_0u2 5))]) hCF hK (c_X6_play l D cI cJ h_0 h_0_of h_0_kept h_0_column h_0_size h_0_hidden h_0_cell h_0_home h_0_waste h_0_stock h_0_past h_0_start h_0_known h_0_sorted h_0_row h_0_best I_0 L_0 v1 v2 v3 I_0u1 L_0u2 hc3) (cwV 3 hts (TBL_V mw_489 mw_490 mw_491 mw_5 mw_492) rfl rfl rfl pmX6_play ⟨Nat.le_of_ble_eq_true rfl, Nat.le_of_ble_eq_true rfl⟩) hS hA [0, 1, 2, 3, 4, 5, 6, 7, 8, 9, 10, 11, 12, 13, 14, 15] [] rfl rfl rfl rfl (by decide) rfl rfl rfl hl.1 rfl (Nat.le_of_ble_eq_true rfl) ⟨Nat.zero_le _, Nat.zero_le _⟩ dX6_doMove_4 rfl (fun H locs hS => ?_)
  refine lv_aload_n hx hb dX6_doMove_7 rfl (lv_at hl 0 rfl) ?_
  refine lv_dup hx hb dX6_doMove_8 rfl ?_
  refine r_get hx hb hts inX6 hown hK hS 0 13 rfl rfl (by decide) q0 rfl dX6_doMove_9 ?_
  refine lv_iconst (v := (nI 1)) hx hb dX6_doMove_12 (by decide) ?_
  refine lv_iadd hx hb dX6_doMove_13 ?_
  replace hF := bnd_e hF
  obtain ⟨I_0u4, eI_0u4, hF⟩ := hF
  refine r_put (w2 := [(h_0, oX6 h_0_of h_0_kept h_0_column h_0_size h_0_hidden h_0_cell h_0_home h_0_waste h_0_stock h_0_past h_0_start h_0_known h_0_sorted h_0_row h_0_best I_0u4), (h_0_of, eI cI 9 (I_0u4 1)), (h_0_kept, eI cI 9 (I_0u4 2)), (h_0_column, eJ cJ 5 (L_0u2 0)), (h_0_size, eI cI 5 (I_0u4 3)), (h_0_hidden, eI cI 5 (I_0u4 4)), (h_0_cell, eI cI 2 (I_0u4 5)), (h_0_home, eI cI 4 (I_0u4 6)), (h_0_waste, eI cI 8 (I_0u4 7)), (h_0_stock, eI cI 8 (I_0u4 8)), (h_0_past, eJ cJ 1616 (L_0u2 1)), (h_0_start, eJ cJ 8 (L_0u2 2)), (h_0_known, eJ cJ 3216 (L_0u2 3)), (h_0_sorted, eJ cJ 3216 (L_0u2 4)), (h_0_row, eI cI 16 (I_0u4 9)), (h_0_best, eJ cJ 8 (L_0u2 5))]) hx hb hts inX6 tyX6 tyX6_ok nmX6 hown hK hS 0 13 rfl rfl (by decide) q0 rfl rfl rfl (Nat.le_of_ble_eq_true rfl) dX6_doMove_14 (by rw [eI_0u4]; rfl) (fun H locs hS => ?_)
  refine lv_aload_n hx hb dX6_doMove_17 rfl (lv_at hl 0 rfl) ?_
  refine lv_aload_n hx hb dX6_doMove_18 rfl (lv_at hl 0 rfl) ?_
  refine r_get hx hb hts inX6 hown hK hS 0 25 rfl rfl (by decide) q2 rfl dX6_doMove_19 ?_
  refine lv_bipush (v := (nI 8)) hx hb dX6_doMove_22 (by decide) ?_
  refine lv_aload_n hx hb dX6_doMove_24 rfl (lv_at hl 0 rfl) ?_
  refine r_get hx hb hts inX6 hown hK hS 0 13 rfl rfl (by decide) q0 rfl dX6_doMove_25 ?_
  refine lv_imul hx hb dX6_doMove_28 ?_
  replace hF := cal1_e hF
  obtain ⟨L_0u5, hc6, hF⟩ := hF
  refine kV_v (As := [.ref h_0_past, .int ((nI 8) * (I_0u4 0 13))]) (rest := []) (wr := []) (w2 := [(h_0, oX6 h_0_of h_0_kept h_0_column h_0_size h_0_hidden h_0_cell h_0_home h_0_waste h_0_stock h_0_past h_0_start h_0_known h_0_sorted h_0_row h_0_best I_0u4), (h_0_of, eI cI 9 (I_0u4 1)), (h_0_kept, eI cI 9 (I_0u4 2)), (h_0_column, eJ cJ 5 (L_0u5 0)), (h_0_size, eI cI 5 (I_0u4 3)), (h_0_hidden, eI cI 5 (I_0u4 4)), (h_0_cell, eI cI 2 (I_0u4 5)), (h_0_home, eI cI 4 (I_0u4 6)), (h_0_waste, eI cI 8 (I_0u4 7)), (h_0_stock, eI cI 8 (I_0u4 8)), (h_0_past, eJ cJ 1616 (L_0u5 1)), (h_0_start, eJ cJ 8 (L_0u5 2)), (h_0_known, eJ cJ 3216 (L_0u5 3)), (h_0_sorted, eJ cJ 3216 (L_0u5 4)), (h_0_row, eI cI 16 (I_0u4 9)), (h_0_best, eJ cJ 8 (L_0u5 5))]) hCF hK (c_X6_store_past l D cI cJ h_0 h_0_of h_0_kept h_0_column h_0_size h_0_hidden h_0_cell h_0_home h_0_waste h_0_stock h_0_past h_0_start h_0_known h_0_sorted h_0_row h_0_best I_0u4 L_0u2 ((nI 8) * (I_0u4 0 13)) L_0u5 hc6) (cwV 2 hts (TBL_V mw_209 mw_210 mw_211 mw_5 mw_212) rfl rfl rfl pmX6_store ⟨Nat.le_of_ble_eq_true rfl, Nat.le_of_ble_eq_true rfl⟩) hS hA [0, 1, 2, 3, 4, 5, 6, 7, 8, 9, 10, 11, 12, 13, 14, 15] [] rfl rfl rfl rfl (by decide) rfl rfl rfl hl.1 rfl (Nat.le_of_ble_eq_true rfl) ⟨Nat.zero_le _, Nat.zero_le _⟩ dX6_doMove_29 rfl (fun H locs hS => ?_)
  have e9_0 := Option.some.inj hF
  obtain ⟨f9_0, e9_1⟩ := Prod.mk.inj e9_0
  subst f9_0
  subst e9_1
  exact kret _ _ _ _ hS dX6_doMove_32
set_option maxHeartbeats 4000000 in
set_option maxRecDepth 100000 in
theorem c_X6_move (l : Launch) (D : va_G) (cI cJ : ClassId) (h_0 h_0_of h_0_kept h_0_column h_0_size h_0_hidden h_0_cell h_0_home h_0_waste h_0_stock h_0_past h_0_start h_0_known h_0_sorted h_0_row h_0_best : Nat) (I_0 : Nat → Nat → Int32) (L_0 : Nat → Nat → Int64) (v1 : Int32) (v2 : Int32) (v3 : Int32) (rv : Int32) (r_I_0 : Nat → Nat → Int32) (r_L_0 : Nat → Nat → Int64) (hF : F_X6_move I_0 L_0 v1 v2 v3 = some (rv, r_I_0, r_L_0)) : CtI l D [(cI, .int), (cJ, .long)] yX6_move wtX6_move ({ frames := 5, cells := 0, slots := 0, locals := 119 } : Room) [.ref h_0, .int v1, .int v2, .int v3] [(h_0, oX6 h_0_of h_0_kept h_0_column h_0_size h_0_hidden h_0_cell h_0_home h_0_waste h_0_stock h_0_past h_0_start h_0_known h_0_sorted h_0_row h_0_best I_0), (h_0_of, eI cI 9 (I_0 1)), (h_0_kept, eI cI 9 (I_0 2)), (h_0_column, eJ cJ 5 (L_0 0)), (h_0_size, eI cI 5 (I_0 3)), (h_0_hidden, eI cI 5 (I_0 4)), (h_0_cell, eI cI 2 (I_0 5)), (h_0_home, eI cI 4 (I_0 6)), (h_0_waste, eI cI 8 (I_0 7)), (h_0_stock, eI cI 8 (I_0 8)), (h_0_past, eJ cJ 1616 (L_0 1)), (h_0_start, eJ cJ 8 (L_0 2)), (h_0_known, eJ cJ 3216 (L_0 3)), (h_0_sorted, eJ cJ 3216 (L_0 4)), (h_0_row, eI cI 16 (I_0 9)), (h_0_best, eJ cJ 8 (L_0 5))] [(h_0, oX6 h_0_of h_0_kept h_0_column h_0_size h_0_hidden h_0_cell h_0_home h_0_waste h_0_stock h_0_past h_0_start h_0_known h_0_sorted h_0_row h_0_best r_I_0), (h_0_of, eI cI 9 (r_I_0 1)), (h_0_kept, eI cI 9 (r_I_0 2)), (h_0_column, eJ cJ 5 (r_L_0 0)), (h_0_size, eI cI 5 (r_I_0 3)), (h_0_hidden, eI cI 5 (r_I_0 4)), (h_0_cell, eI cI 2 (r_I_0 5)), (h_0_home, eI cI 4 (r_I_0 6)), (h_0_waste, eI cI 8 (r_I_0 7)), (h_0_stock, eI cI 8 (r_I_0 8)), (h_0_past, eJ cJ 1616 (r_L_0 1)), (h_0_start, eJ cJ 8 (r_L_0 2)), (h_0_known, eJ cJ 3216 (r_L_0 3)), (h_0_sorted, eJ cJ 3216 (r_L_0 4)), (h_0_row, eI cI 16 (r_I_0 9)), (h_0_best, eJ cJ 8 (r_L_0 5))] rv := by
  refine CtI.of (cc := cX6_move) (maxL := 5) (by decide) rfl (Nat.le_of_ble_eq_true rfl) ?_
  intro p e s m args below meth c A H0 Q ls X hS hl kret
  have hCF := X.1
  obtain ⟨⟨hx, hb, hml, hown, hts⟩, hK, hA⟩ := X
  have hl : lv_has ls 5 [(0, .ref h_0), (1, .int v1), (2, .int v2), (3, .int v3)] := hl
  have q0 := hts (.fieldLink RX6 148 "PatienceryModel" "done" "I") (List.mem_cons_of_mem _ mw_305)
  have inX6 : ∀ w ∈ u_ws RX6 TX6 32, w ∈ wtX6_move := fun w h => List.mem_cons_of_mem _ (inlX6 w h)
  have B98 : ∀ (I_0 : Nat → Nat → Int32) (L_0 : Nat → Nat → Int64) (v1 : Int32) (v2 : Int32) (v3 : Int32) (s1 : Int32) (H : Heap) (locs : List Loc) (ls : Array Slot), HS D A H0 [(h_0, oX6 h_0_of h_0_kept h_0_column h_0_size h_0_hidden h_0_cell h_0_home h_0_waste h_0_stock h_0_past h_0_start h_0_known h_0_sorted h_0_row h_0_best I_0), (h_0_of, eI cI 9 (I_0 1)), (h_0_kept, eI cI 9 (I_0 2)), (h_0_column, eJ cJ 5 (L_0 0)), (h_0_size, eI cI 5 (I_0 3)), (h_0_hidden, eI cI 5 (I_0 4)), (h_0_cell, eI cI 2 (I_0 5)), (h_0_home, eI cI 4 (I_0 6)), (h_0_waste, eI cI 8 (I_0 7)), (h_0_stock, eI cI 8 (I_0 8)), (h_0_past, eJ cJ 1616 (L_0 1)), (h_0_start, eJ cJ 8 (L_0 2)), (h_0_known, eJ cJ 3216 (L_0 3)), (h_0_sorted, eJ cJ 3216 (L_0 4)), (h_0_row, eI cI 16 (I_0 9)), (h_0_best, eJ cJ 8 (L_0 5))] H locs → lv_has ls 5 [(0, .ref h_0), (1, .int v1), (2, .int v2), (3, .int v3)] → F_X6_move_b98   I_0 L_0 v1 v2 v3 s1 = some (rv, r_I_0, r_L_0) → W p l e ({ frames := 5, cells := 0, slots := 0, locals := 119 } : Room) s m args below meth c H locs 0 0 Q (F0 m 98 ls [.int s1, .ref h_0]) := by
    intro I_0 L_0 v1 v2 v3 s1 H locs ls hS hl hF
    unfold F_X6_move_b98 at hF
    replace hF := cal2_e hF
    obtain ⟨x1, I_0u2, hc3, hF⟩ := hF
    refine kV_i (As := [.int s1]) (rest := []) (wr := []) (w2 := [(h_0, oX6 h_0_of h_0_kept h_0_column h_0_size h_0_hidden h_0_cell h_0_home h_0_waste h_0_stock h_0_past h_0_start h_0_known h_0_sorted h_0_row h_0_best I_0u2), (h_0_of, eI cI 9 (I_0u2 1)), (h_0_kept, eI cI 9 (I_0u2 2)), (h_0_column, eJ cJ 5 (L_0 0)), (h_0_size, eI cI 5 (I_0u2 3)), (h_0_hidden, eI cI 5 (I_0u2 4)), (h_0_cell, eI cI 2 (I_0u2 5)), (h_0_home, eI cI 4 (I_0u2 6)), (h_0_waste, eI cI 8 (I_0u2 7)), (h_0_stock, eI cI 8 (I_0u2 8)), (h_0_past, eJ cJ 1616 (L_0 1)), (h_0_start, eJ cJ 8 (L_0 2)), (h_0_known, eJ cJ 3216 (L_0 3)), (h_0_sorted, eJ cJ 3216 (L_0 4)), (h_0_row, eI cI 16 (I_0u2 9)), (h_0_best, eJ cJ 8 (L_0 5))]) hCF hK (c_X6_goesWell l D cI cJ h_0 h_0_of h_0_kept h_0_column h_0_size h_0_hidden h_0_cell h_0_home h_0_waste h_0_stock h_0_past h_0_start h_0_known h_0_sorted h_0_row h_0_best L_0 I_0 s1 x1 I_0u2 hc3) (cwV 1 hts (TBL_V mw_237 mw_238 mw_239 mw_5 mw_240) rfl rfl rfl pmX6_goesWell ⟨Nat.le_of_ble_eq_true rfl, Nat.le_of_ble_eq_true rfl⟩) hS hA [0, 1, 2, 3, 4, 5, 6, 7, 8, 9, 10, 11, 12, 13, 14, 15] [] rfl rfl rfl rfl (by decide) rfl rfl rfl hl.1 rfl (Nat.le_of_ble_eq_true rfl) ⟨Nat.zero_le _, Nat.zero_le _⟩ dX6_move_98 rfl (fun H locs hS => ?_)
    refine lv_if_ne (tgt := 106) hx hb dX6_move_101 (by decide) (fun c_4 => ?_) (fun c_4 => ?_)
    · replace hF := ifn hF c_4
      refine lv_aload_n hx hb dX6_move_106 rfl (lv_at hl 0 rfl) ?_
      refine lv_iload_n hx hb dX6_move_107 rfl (lv_at hl 1 rfl) ?_
      refine lv_iload_n hx hb dX6_move_108 rfl (lv_at hl 2 rfl) ?_
      refine lv_iload_n hx hb dX6_move_109 rfl (lv_at hl 3 rfl) ?_
      replace hF := cal2_e hF
      obtain ⟨I_0u5, L_0u6, hc7, hF⟩ := hF
      refine kV_v (As := [.int v1, .int v2, .int v3]) (rest := []) (wr := []) (w2 := [(h_0, oX6 h_0_of h_0_kept h_0_column h_0_size h_0_hidden h_0_cell h_0_home h_0_waste h_0_stock h_0_past h_0_start h_0_known h_0_sorted h_0_row h_0_best I_0u5), (h_0_of, eI cI 9 (I_0u5 1)), (h_0_kept, eI cI 9 (I_0u5 2)), (h_0_column, eJ cJ 5 (L_0u6 0)), (h_0_size, eI cI 5 (I_0u5 3)), (h_0_hidden, eI cI 5 (I_0u5 4)), (h_0_cell, eI cI 2 (I_0u5 5)), (h_0_home, eI cI 4 (I_0u5 6)), (h_0_waste, eI cI 8 (I_0u5 7)), (h_0_stock, eI cI 8 (I_0u5 8)), (h_0_past, eJ cJ 1616 (L_0u6 1)), (h_0_start, eJ cJ 8 (L_0u6 2)), (h_0_known, eJ cJ 3216 (L_0u6 3)), (h_0_sorted, eJ cJ 3216 (L_0u6 4)), (h_0_row, eI cI 16 (I_0u5 9)), (h_0_best, eJ cJ 8 (L_0u6 5))]) hCF hK (c_X6_doMove l D cI cJ h_0 h_0_of h_0_kept h_0_column h_0_size h_0_hidden h_0_cell h_0_home h_0_waste h_0_stock h_0_past h_0_start h_0_known h_0_sorted h_0_row h_0_best I_0u2 L_0 v1 v2 v3 I_0u5 L_0u6 hc7) (cwV 3 hts (TBL_V mw_485 mw_486 mw_487 mw_5 mw_488) rfl rfl rfl pmX6_doMove ⟨Nat.le_of_ble_eq_true rfl, Nat.le_of_ble_eq_true rfl⟩) hS hA [0, 1, 2, 3, 4, 5, 6, 7, 8, 9, 10, 11, 12, 13, 14, 15] [] rfl rfl rfl rfl (by decide) rfl rfl rfl hl.1 rfl (Nat.le_of_ble_eq_true rfl) ⟨Nat.zero_le _, Nat.zero_le _⟩ dX6_move_110 rfl (fun H locs hS => ?_)
      refine lv_aload_n hx hb dX6_move_113 rfl (lv_at hl 0 rfl) ?_
      replace hF := cal1_e hF
      obtain ⟨x8, hc9, hF⟩ := hF
      refine kV_i (As := []) (rest := []) (wr := []) (w2 := [(h_0, oX6 h_0_of h_0_kept h_0_column h_0_size h_0_hidden h_0_cell h_0_home h_0_waste h_0_stock h_0_past h_0_start h_0_known h_0_sorted h_0_row h_0_best I_0u5), (h_0_of, eI cI 9 (I_0u5 1)), (h_0_kept, eI cI 9 (I_0u5 2)), (h_0_column, eJ cJ 5 (L_0u6 0)), (h_0_size, eI cI 5 (I_0u5 3)), (h_0_hidden, eI cI 5 (I_0u5 4)), (h_0_cell, eI cI 2 (I_0u5 5)), (h_0_home, eI cI 4 (I_0u5 6)), (h_0_waste, eI cI 8 (I_0u5 7)), (h_0_stock, eI cI 8 (I_0u5 8)), (h_0_past, eJ cJ 1616 (L_0u6 1)), (h_0_start, eJ cJ 8 (L_0u6 2)), (h_0_known, eJ cJ 3216 (L_0u6 3)), (h_0_sorted, eJ cJ 3216 (L_0u6 4)), (h_0_row, eI cI 16 (I_0u5 9)), (h_0_best, eJ cJ 8 (L_0u6 5))]) hCF hK (c_X6_atHome l D cI cJ h_0 h_0_of h_0_kept h_0_column h_0_size h_0_hidden h_0_cell h_0_home h_0_waste h_0_stock h_0_past h_0_start h_0_known h_0_sorted h_0_row h_0_best I_0u5 L_0u6 x8 hc9) (cwV 0 hts (TBL_V mw_311 mw_312 mw_313 mw_5 mw_314) rfl rfl rfl pmX6_atHome ⟨Nat.le_of_ble_eq_true rfl, Nat.le_of_ble_eq_true rfl⟩) hS hA [0, 1, 2, 3, 4, 5, 6, 7, 8, 9, 10, 11, 12, 13, 14, 15] [] rfl rfl rfl rfl (by decide) rfl rfl rfl hl.1 rfl (Nat.le_of_ble_eq_true rfl) ⟨Nat.zero_le _, Nat.zero_le _⟩ dX6_move_114 rfl (fun H locs hS => ?_)
      have e9_0 := Option.some.inj hF
      obtain ⟨f9_0, e9_1⟩ := Prod.mk.inj e9_0
      obtain ⟨f9_1, e9_2⟩ := Prod.mk.inj e9_1
      subst f9_0
      subst f9_1
      subst e9_2
      exact kret _ _ _ _ hS dX6_move_117
    · replace hF := ifp hF c_4
      refine lv_iconst (v := (nI 0)) hx hb dX6_move_104 (by decide) ?_
      have e9_0 := Option.some.inj hF
      obtain ⟨f9_0, e9_1⟩ := Prod.mk.inj e9_0
      obtain ⟨f9_1, e9_2⟩ := Prod.mk.inj e9_1
      subst f9_0
      subst f9_1
      subst e9_2
      exact kret _ _ _ _ hS dX6_move_105
  have B61 : ∀ (I_0 : Nat → Nat → Int32) (L_0 : Nat → Nat → Int64) (v1 : Int32) (v2 : Int32) (v3 : Int32) (s0 : Int32) (H : Heap) (locs : List Loc) (ls : Array Slot), HS D A H0 [(h_0, oX6 h_0_of h_0_kept h_0_column h_0_size h_0_hidden h_0_cell h_0_home h_0_waste h_0_stock h_0_past h_0_start h_0_known h_0_sorted h_0_row h_0_best I_0), (h_0_of, eI cI 9 (I_0 1)), (h_0_kept, eI cI 9 (I_0 2)), (h_0_column, eJ cJ 5 (L_0 0)), (h_0_size, eI cI 5 (I_0 3)), (h_0_hidden, eI cI 5 (I_0 4)), (h_0_cell, eI cI 2 (I_0 5)), (h_0_home, eI cI 4 (I_0 6)), (h_0_waste, eI cI 8 (I_0 7)), (h_0_stock, eI cI 8 (I_0 8)), (h_0_past, eJ cJ 1616 (L_0 1)), (h_0_start, eJ cJ 8 (L_0 2)), (h_0_known, eJ cJ 3216 (L_0 3)), (h_0_sorted, eJ cJ 3216 (L_0 4)), (h_0_row, eI cI 16 (I_0 9)), (h_0_best, eJ cJ 8 (L_0 5))] H locs → lv_has ls 5 [(0, .ref h_0), (1, .int v1), (2, .int v2), (3, .int v3)] → F_X6_move_b61   I_0 L_0 v1 v2 v3 s0 = some (rv, r_I_0, r_L_0) → W p l e ({ frames := 5, cells := 0, slots := 0, locals := 119 } : Room) s m args below meth c H locs 0 0 Q (F0 m 61 ls [.int s0]) := by
    intro I_0 L_0 v1 v2 v3 s0 H locs ls hS hl hF
    unfold F_X6_move_b61 at hF
    refine lv_istore (lv' := [(4, .int s0), (0, .ref h_0), (1, .int v1), (2, .int v2), (3, .int v3)]) hx hb dX6_move_61 hl (by decide) rfl (fun ls hl => ?_)
    refine lv_aload_n hx hb dX6_move_63 rfl (lv_at hl 1 rfl) ?_
    refine lv_iload hx hb dX6_move_64 (lv_at hl 0 rfl) ?_
    refine lv_if_ne (tgt := 73) hx hb dX6_move_66 (by decide) (fun c_10 => ?_) (fun c_10 => ?_)
    · replace hF := ifn hF c_10
      refine lv_aload_n hx hb dX6_move_73 rfl (lv_at hl 1 rfl) ?_
      refine r_get hx hb hts inX6 hown hK hS 0 13 rfl rfl (by decide) q0 rfl dX6_move_74 ?_
      refine lv_sipush (v := (nI 200)) hx hb dX6_move_77 (by decide) ?_
      refine lv_icmp_eq (tgt := 93) hx hb dX6_move_80 (by decide) (fun c_11 => ?_) (fun c_11 => ?_)
      · replace hF := ifp hF c_11
        refine lv_iconst (v := (nI 2)) hx hb dX6_move_93 (by decide) ?_
        refine lv_goto (tgt := 98) hx hb dX6_move_94 (by decide) ?_
        exact B98 I_0 L_0 v1 v2 v3 (nI 2) _ _ _ hS (lv_sub hl [1, 2, 3, 4] rfl) hF
      · replace hF := ifn hF c_11
        refine lv_aload_n hx hb dX6_move_83 rfl (lv_at hl 1 rfl) ?_
        refine lv_iload_n hx hb dX6_move_84 rfl (lv_at hl 2 rfl) ?_
        refine lv_iload_n hx hb dX6_move_85 rfl (lv_at hl 3 rfl) ?_
        refine lv_iload_n hx hb dX6_move_86 rfl (lv_at hl 4 rfl) ?_
        replace hF := cal1_e hF
        obtain ⟨x12, hc13, hF⟩ := hF
        refine kV_i (As := [.int v1, .int v2, .int v3]) (rest := [.ref h_0]) (wr := []) (w2 := [(h_0, oX6 h_0_of h_0_kept h_0_column h_0_size h_0_hidden h_0_cell h_0_home h_0_waste h_0_stock h_0_past h_0_start h_0_known h_0_sorted h_0_row h_0_best I_0), (h_0_of, eI cI 9 (I_0 1)), (h_0_kept, eI cI 9 (I_0 2)), (h_0_column, eJ cJ 5 (L_0 0)), (h_0_size, eI cI 5 (I_0 3)), (h_0_hidden, eI cI 5 (I_0 4)), (h_0_cell, eI cI 2 (I_0 5)), (h_0_home, eI cI 4 (I_0 6)), (h_0_waste, eI cI 8 (I_0 7)), (h_0_stock, eI cI 8 (I_0 8)), (h_0_past, eJ cJ 1616 (L_0 1)), (h_0_start, eJ cJ 8 (L_0 2)), (h_0_known, eJ cJ 3216 (L_0 3)), (h_0_sorted, eJ cJ 3216 (L_0 4)), (h_0_row, eI cI 16 (I_0 9)), (h_0_best, eJ cJ 8 (L_0 5))]) hCF hK (c_X6_isMove l D cI cJ h_0 h_0_of h_0_kept h_0_column h_0_size h_0_hidden h_0_cell h_0_home h_0_waste h_0_stock h_0_past h_0_start h_0_known h_0_sorted h_0_row h_0_best I_0 L_0 v1 v2 v3 x12 hc13) (cwV 3 hts (TBL_V mw_453 mw_454 mw_455 mw_5 mw_456) rfl rfl rfl pmX6_isMove ⟨Nat.le_of_ble_eq_true rfl, Nat.le_of_ble_eq_true rfl⟩) hS hA [0, 1, 2, 3, 4, 5, 6, 7, 8, 9, 10, 11, 12, 13, 14, 15] [] rfl rfl rfl rfl (by decide) rfl rfl rfl hl.1 rfl (Nat.le_of_ble_eq_true rfl) ⟨Nat.zero_le _, Nat.zero_le _⟩ dX6_move_87 rfl (fun H locs hS => ?_)
        refine lv_if_ne (tgt := 97) hx hb dX6_move_90 (by decide) (fun c_14 => ?_) (fun c_14 => ?_)
        · replace hF := ifn hF c_14
          refine lv_iconst (v := (nI 0)) hx hb dX6_move_97 (by decide) ?_
          exact B98 I_0 L_0 v1 v2 v3 (nI 0) _ _ _ hS (lv_sub hl [1, 2, 3, 4] rfl) hF
        · replace hF := ifp hF c_14
          refine lv_iconst (v := (nI 2)) hx hb dX6_move_93 (by decide) ?_
          refine lv_goto (tgt := 98) hx hb dX6_move_94 (by decide) ?_
          exact B98 I_0 L_0 v1 v2 v3 (nI 2) _ _ _ hS (lv_sub hl [1, 2, 3, 4] rfl) hF
    · replace hF := ifp hF c_10
      refine lv_iconst (v := (nI 1)) hx hb dX6_move_69 (by decide) ?_
      refine lv_goto (tgt := 98) hx hb dX6_move_70 (by decide) ?_
      exact B98 I_0 L_0 v1 v2 v3 (nI 1) _ _ _ hS (lv_sub hl [1, 2, 3, 4] rfl) hF
  unfold F_X6_move at hF
  refine lv_iload_n hx hb dX6_move_0 rfl (lv_at hl 1 rfl) ?_
  refine lv_iconst (v := (nI 0)) hx hb dX6_move_1 (by decide) ?_
  refine lv_bipush (v := (nI 9)) hx hb dX6_move_2 (by decide) ?_
  replace hF := cal1_e hF
  obtain ⟨x15, hc16, hF⟩ := hF
  refine kS_i (As := [.int v1, .int (nI 0), .int (nI 9)]) (rest := []) (wr := [(h_0, oX6 h_0_of h_0_kept h_0_column h_0_size h_0_hidden h_0_cell h_0_home h_0_waste h_0_stock h_0_past h_0_start h_0_known h_0_sorted h_0_row h_0_best I_0), (h_0_of, eI cI 9 (I_0 1)), (h_0_kept, eI cI 9 (I_0 2)), (h_0_column, eJ cJ 5 (L_0 0)), (h_0_size, eI cI 5 (I_0 3)), (h_0_hidden, eI cI 5 (I_0 4)), (h_0_cell, eI cI 2 (I_0 5)), (h_0_home, eI cI 4 (I_0 6)), (h_0_waste, eI cI 8 (I_0 7)), (h_0_stock, eI cI 8 (I_0 8)), (h_0_past, eJ cJ 1616 (L_0 1)), (h_0_start, eJ cJ 8 (L_0 2)), (h_0_known, eJ cJ 3216 (L_0 3)), (h_0_sorted, eJ cJ 3216 (L_0 4)), (h_0_row, eI cI 16 (I_0 9)), (h_0_best, eJ cJ 8 (L_0 5))]) (w2 := [(h_0, oX6 h_0_of h_0_kept h_0_column h_0_size h_0_hidden h_0_cell h_0_home h_0_waste h_0_stock h_0_past h_0_start h_0_known h_0_sorted h_0_row h_0_best I_0), (h_0_of, eI cI 9 (I_0 1)), (h_0_kept, eI cI 9 (I_0 2)), (h_0_column, eJ cJ 5 (L_0 0)), (h_0_size, eI cI 5 (I_0 3)), (h_0_hidden, eI cI 5 (I_0 4)), (h_0_cell, eI cI 2 (I_0 5)), (h_0_home, eI cI 4 (I_0 6)), (h_0_waste, eI cI 8 (I_0 7)), (h_0_stock, eI cI 8 (I_0 8)), (h_0_past, eJ cJ 1616 (L_0 1)), (h_0_start, eJ cJ 8 (L_0 2)), (h_0_known, eJ cJ 3216 (L_0 3)), (h_0_sorted, eJ cJ 3216 (L_0 4)), (h_0_row, eI cI 16 (I_0 9)), (h_0_best, eJ cJ 8 (L_0 5))]) hCF hK (c_X6_in l D cI cJ v1 (nI 0) (nI 9) x15 hc16) (va_cwS 3 hts (TBL_S mw_234 mw_235 mw_5 mw_236) rfl rfl rfl pmX6_in.2 ⟨Nat.le_of_ble_eq_true rfl, Nat.le_of_ble_eq_true rfl⟩) hS hA [] [0, 1, 2, 3, 4, 5, 6, 7, 8, 9, 10, 11, 12, 13, 14, 15] rfl rfl rfl rfl (by decide) rfl hl.1 rfl (Nat.le_of_ble_eq_true rfl) ⟨Nat.zero_le _, Nat.zero_le _⟩ dX6_move_4 rfl (fun H locs hS => ?_)
  refine lv_if_eq (tgt := 60) hx hb dX6_move_7 (by decide) (fun c_17 => ?_) (fun c_17 => ?_)
  · replace hF := ifp hF c_17
    refine lv_iconst (v := (nI 0)) hx hb dX6_move_60 (by decide) ?_
    exact B61 I_0 L_0 v1 v2 v3 (nI 0) _ _ _ hS (lv_sub hl [0, 1, 2, 3] rfl) hF
  · replace hF := ifn hF c_17
    refine lv_iload_n hx hb dX6_move_10 rfl (lv_at hl 1 rfl) ?_
    refine lv_bipush (v := (nI 8)) hx hb dX6_move_11 (by decide) ?_
    refine lv_icmp_eq (tgt := 60) hx hb dX6_move_13 (by decide) (fun c_18 => ?_) (fun c_18 => ?_)
    · replace hF := ifp hF c_18
      refine lv_iconst (v := (nI 0)) hx hb dX6_move_60 (by decide) ?_
      exact B61 I_0 L_0 v1 v2 v3 (nI 0) _ _ _ hS (lv_sub hl [0, 1, 2, 3] rfl) hF
    · replace hF := ifn hF c_18
      refine lv_iload_n hx hb dX6_move_16 rfl (lv_at hl 2 rfl) ?_
      refine lv_iconst (v := (nI 0)) hx hb dX6_move_17 (by decide) ?_
      refine lv_bipush (v := (nI 8)) hx hb dX6_move_18 (by decide) ?_
      replace hF := cal1_e hF
      obtain ⟨x19, hc20, hF⟩ := hF
      refine kS_i (As := [.int v2, .int (nI 0), .int (nI 8)]) (rest := []) (wr := [(h_0, oX6 h_0_of h_0_kept h_0_column h_0_size h_0_hidden h_0_cell h_0_home h_0_waste h_0_stock h_0_past h_0_start h_0_known h_0_sorted h_0_row h_0_best I_0), (h_0_of, eI cI 9 (I_0 1)), (h_0_kept, eI cI 9 (I_0 2)), (h_0_column, eJ cJ 5 (L_0 0)), (h_0_size, eI cI 5 (I_0 3)), (h_0_hidden, eI cI 5 (I_0 4)), (h_0_cell, eI cI 2 (I_0 5)), (h_0_home, eI cI 4 (I_0 6)), (h_0_waste, eI cI 8 (I_0 7)), (h_0_stock, eI cI 8 (I_0 8)), (h_0_past, eJ cJ 1616 (L_0 1)), (h_0_start, eJ cJ 8 (L_0 2)), (h_0_known, eJ cJ 3216 (L_0 3)), (h_0_sorted, eJ cJ 3216 (L_0 4)), (h_0_row, eI cI 16 (I_0 9)), (h_0_best, eJ cJ 8 (L_0 5))]) (w2 := [(h_0, oX6 h_0_of h_0_kept h_0_column h_0_size h_0_hidden h_0_cell h_0_home h_0_waste h_0_stock h_0_past h_0_start h_0_known h_0_sorted h_0_row h_0_best I_0), (h_0_of, eI cI 9 (I_0 1)), (h_0_kept, eI cI 9 (I_0 2)), (h_0_column, eJ cJ 5 (L_0 0)), (h_0_size, eI cI 5 (I_0 3)), (h_0_hidden, eI cI 5 (I_0 4)), (h_0_cell, eI cI 2 (I_0 5)), (h_0_home, eI cI 4 (I_0 6)), (h_0_waste, eI cI 8 (I_0 7)), (h_0_stock, eI cI 8 (I_0 8)), (h_0_past, eJ cJ 1616 (L_0 1)), (h_0_start, eJ cJ 8 (L_0 2)), (h_0_known, eJ cJ 3216 (L_0 3)), (h_0_sorted, eJ cJ 3216 (L_0 4)), (h_0_row, eI cI 16 (I_0 9)), (h_0_best, eJ cJ 8 (L_0 5))]) hCF hK (c_X6_in l D cI cJ v2 (nI 0) (nI 8) x19 hc20) (va_cwS 3 hts (TBL_S mw_234 mw_235 mw_5 mw_236) rfl rfl rfl pmX6_in.2 ⟨Nat.le_of_ble_eq_true rfl, Nat.le_of_ble_eq_true rfl⟩) hS hA [] [0, 1, 2, 3, 4, 5, 6, 7, 8, 9, 10, 11, 12, 13, 14, 15] rfl rfl rfl rfl (by decide) rfl hl.1 rfl (Nat.le_of_ble_eq_true rfl) ⟨Nat.zero_le _, Nat.zero_le _⟩ dX6_move_20 rfl (fun H locs hS => ?_)
      refine lv_if_eq (tgt := 60) hx hb dX6_move_23 (by decide) (fun c_21 => ?_) (fun c_21 => ?_)
      · replace hF := ifp hF c_21
        refine lv_iconst (v := (nI 0)) hx hb dX6_move_60 (by decide) ?_
        exact B61 I_0 L_0 v1 v2 v3 (nI 0) _ _ _ hS (lv_sub hl [0, 1, 2, 3] rfl) hF
      · replace hF := ifn hF c_21
        refine lv_iload_n hx hb dX6_move_26 rfl (lv_at hl 1 rfl) ?_
        refine lv_iload_n hx hb dX6_move_27 rfl (lv_at hl 2 rfl) ?_
        refine lv_icmp_eq (tgt := 60) hx hb dX6_move_28 (by decide) (fun c_22 => ?_) (fun c_22 => ?_)
        · replace hF := ifp hF c_22
          refine lv_iconst (v := (nI 0)) hx hb dX6_move_60 (by decide) ?_
          exact B61 I_0 L_0 v1 v2 v3 (nI 0) _ _ _ hS (lv_sub hl [0, 1, 2, 3] rfl) hF
        · replace hF := ifn hF c_22
          refine lv_iload_n hx hb dX6_move_31 rfl (lv_at hl 3 rfl) ?_
          refine lv_iconst (v := (nI 1)) hx hb dX6_move_32 (by decide) ?_
          refine lv_bipush (v := (nI 16)) hx hb dX6_move_33 (by decide) ?_
          replace hF := cal1_e hF
          obtain ⟨x23, hc24, hF⟩ := hF
          refine kS_i (As := [.int v3, .int (nI 1), .int (nI 16)]) (rest := []) (wr := [(h_0, oX6 h_0_of h_0_kept h_0_column h_0_size h_0_hidden h_0_cell h_0_home h_0_waste h_0_stock h_0_past h_0_start h_0_known h_0_sorted h_0_row h_0_best I_0), (h_0_of, eI cI 9 (I_0 1)), (h_0_kept, eI cI 9 (I_0 2)), (h_0_column, eJ cJ 5 (L_0 0)), (h_0_size, eI cI 5 (I_0 3)), (h_0_hidden, eI cI 5 (I_0 4)), (h_0_cell, eI cI 2 (I_0 5)), (h_0_home, eI cI 4 (I_0 6)), (h_0_waste, eI cI 8 (I_0 7)), (h_0_stock, eI cI 8 (I_0 8)), (h_0_past, eJ cJ 1616 (L_0 1)), (h_0_start, eJ cJ 8 (L_0 2)), (h_0_known, eJ cJ 3216 (L_0 3)), (h_0_sorted, eJ cJ 3216 (L_0 4)), (h_0_row, eI cI 16 (I_0 9)), (h_0_best, eJ cJ 8 (L_0 5))]) (w2 := [(h_0, oX6 h_0_of h_0_kept h_0_column h_0_size h_0_hidden h_0_cell h_0_home h_0_waste h_0_stock h_0_past h_0_start h_0_known h_0_sorted h_0_row h_0_best I_0), (h_0_of, eI cI 9 (I_0 1)), (h_0_kept, eI cI 9 (I_0 2)), (h_0_column, eJ cJ 5 (L_0 0)), (h_0_size, eI cI 5 (I_0 3)), (h_0_hidden, eI cI 5 (I_0 4)), (h_0_cell, eI cI 2 (I_0 5)), (h_0_home, eI cI 4 (I_0 6)), (h_0_waste, eI cI 8 (I_0 7)), (h_0_stock, eI cI 8 (I_0 8)), (h_0_past, eJ cJ 1616 (L_0 1)), (h_0_start, eJ cJ 8 (L_0 2)), (h_0_known, eJ cJ 3216 (L_0 3)), (h_0_sorted, eJ cJ 3216 (L_0 4)), (h_0_row, eI cI 16 (I_0 9)), (h_0_best, eJ cJ 8 (L_0 5))]) hCF hK (c_X6_in l D cI cJ v3 (nI 1) (nI 16) x23 hc24) (va_cwS 3 hts (TBL_S mw_234 mw_235 mw_5 mw_236) rfl rfl rfl pmX6_in.2 ⟨Nat.le_of_ble_eq_true rfl, Nat.le_of_ble_eq_true rfl⟩) hS hA [] [0, 1, 2, 3, 4, 5, 6, 7, 8, 9, 10, 11, 12, 13, 14, 15] rfl rfl rfl rfl (by decide) rfl hl.1 rfl (Nat.le_of_ble_eq_true rfl) ⟨Nat.zero_le _, Nat.zero_le _⟩ dX6_move_35 rfl (fun H locs hS => ?_)
          refine lv_if_eq (tgt := 60) hx hb dX6_move_38 (by decide) (fun c_25 => ?_) (fun c_25 => ?_)
          · replace hF := ifp hF c_25
            refine lv_iconst (v := (nI 0)) hx hb dX6_move_60 (by decide) ?_
            exact B61 I_0 L_0 v1 v2 v3 (nI 0) _ _ _ hS (lv_sub hl [0, 1, 2, 3] rfl) hF
          · replace hF := ifn hF c_25
            refine lv_iload_n hx hb dX6_move_41 rfl (lv_at hl 3 rfl) ?_
            refine lv_iconst (v := (nI 1)) hx hb dX6_move_42 (by decide) ?_
            refine lv_icmp_eq (tgt := 56) hx hb dX6_move_43 (by decide) (fun c_26 => ?_) (fun c_26 => ?_)
            · replace hF := ifp hF c_26
              refine lv_iconst (v := (nI 1)) hx hb dX6_move_56 (by decide) ?_
              refine lv_goto (tgt := 61) hx hb dX6_move_57 (by decide) ?_
              exact B61 I_0 L_0 v1 v2 v3 (nI 1) _ _ _ hS (lv_sub hl [0, 1, 2, 3] rfl) hF
            · replace hF := ifn hF c_26
              refine lv_iload_n hx hb dX6_move_46 rfl (lv_at hl 1 rfl) ?_
              refine lv_iconst (v := (nI 5)) hx hb dX6_move_47 (by decide) ?_
              refine lv_icmp_ge (tgt := 60) hx hb dX6_move_48 (by decide) (fun c_27 => ?_) (fun c_27 => ?_)
              · replace hF := ifp hF c_27
                refine lv_iconst (v := (nI 0)) hx hb dX6_move_60 (by decide) ?_
                exact B61 I_0 L_0 v1 v2 v3 (nI 0) _ _ _ hS (lv_sub hl [0, 1, 2, 3] rfl) hF
              · replace hF := ifn hF c_27
                refine lv_iload_n hx hb dX6_move_51 rfl (lv_at hl 2 rfl) ?_
                refine lv_iconst (v := (nI 5)) hx hb dX6_move_52 (by decide) ?_
                refine lv_icmp_ge (tgt := 60) hx hb dX6_move_53 (by decide) (fun c_28 => ?_) (fun c_28 => ?_)
                · replace hF := ifp hF c_28
                  refine lv_iconst (v := (nI 0)) hx hb dX6_move_60 (by decide) ?_
                  exact B61 I_0 L_0 v1 v2 v3 (nI 0) _ _ _ hS (lv_sub hl [0, 1, 2, 3] rfl) hF
                · replace hF := ifn hF c_28
                  refine lv_iconst (v := (nI 1)) hx hb dX6_move_56 (by decide) ?_
                  refine lv_goto (tgt := 61) hx hb dX6_move_57 (by decide) ?_
                  exact B61 I_0 L_0 v1 v2 v3 (nI 1) _ _ _ hS (lv_sub hl [0, 1, 2, 3] rfl) hF
set_option maxHeartbeats 4000000 in
set_option maxRecDepth 100000 in
theorem c_X6_undo (l : Launch) (D : va_G) (cI cJ : ClassId) (h_0 h_0_of h_0_kept h_0_column h_0_size h_0_hidden h_0_cell h_0_home h_0_waste h_0_stock h_0_past h_0_start h_0_known h_0_sorted h_0_row h_0_best : Nat) (I_0 : Nat → Nat → Int32) (L_0 : Nat → Nat → Int64) (v1 : Int32) (rv : Int32) (r_I_0 : Nat → Nat → Int32) (r_L_0 : Nat → Nat → Int64) (hF : F_X6_undo I_0 L_0 v1 = some (rv, r_I_0, r_L_0)) : CtI l D [(cI, .int), (cJ, .long)] yX6_undo wtX6_undo ({ frames := 1, cells := 0, slots := 0, locals := 25 } : Room) [.ref h_0, .int v1] [(h_0, oX6 h_0_of h_0_kept h_0_column h_0_size h_0_hidden h_0_cell h_0_home h_0_waste h_0_stock h_0_past h_0_start h_0_known h_0_sorted h_0_row h_0_best I_0), (h_0_of, eI cI 9 (I_0 1)), (h_0_kept, eI cI 9 (I_0 2)), (h_0_column, eJ cJ 5 (L_0 0)), (h_0_size, eI cI 5 (I_0 3)), (h_0_hidden, eI cI 5 (I_0 4)), (h_0_cell, eI cI 2 (I_0 5)), (h_0_home, eI cI 4 (I_0 6)), (h_0_waste, eI cI 8 (I_0 7)), (h_0_stock, eI cI 8 (I_0 8)), (h_0_past, eJ cJ 1616 (L_0 1)), (h_0_start, eJ cJ 8 (L_0 2)), (h_0_known, eJ cJ 3216 (L_0 3)), (h_0_sorted, eJ cJ 3216 (L_0 4)), (h_0_row, eI cI 16 (I_0 9)), (h_0_best, eJ cJ 8 (L_0 5))] [(h_0, oX6 h_0_of h_0_kept h_0_column h_0_size h_0_hidden h_0_cell h_0_home h_0_waste h_0_stock h_0_past h_0_start h_0_known h_0_sorted h_0_row h_0_best r_I_0), (h_0_of, eI cI 9 (r_I_0 1)), (h_0_kept, eI cI 9 (r_I_0 2)), (h_0_column, eJ cJ 5 (r_L_0 0)), (h_0_size, eI cI 5 (r_I_0 3)), (h_0_hidden, eI cI 5 (r_I_0 4)), (h_0_cell, eI cI 2 (r_I_0 5)), (h_0_home, eI cI 4 (r_I_0 6)), (h_0_waste, eI cI 8 (r_I_0 7)), (h_0_stock, eI cI 8 (r_I_0 8)), (h_0_past, eJ cJ 1616 (r_L_0 1)), (h_0_start, eJ cJ 8 (r_L_0 2)), (h_0_known, eJ cJ 3216 (r_L_0 3)), (h_0_sorted, eJ cJ 3216 (r_L_0 4)), (h_0_row, eI cI 16 (r_I_0 9)), (h_0_best, eJ cJ 8 (r_L_0 5))] rv := by
  refine CtI.of (cc := cX6_undo) (maxL := 3) (by decide) rfl (Nat.le_of_ble_eq_true rfl) ?_
  intro p e s m args below meth c A H0 Q ls X hS hl kret
  have hCF := X.1
  obtain ⟨⟨hx, hb, hml, hown, hts⟩, hK, hA⟩ := X
  have hl : lv_has ls 3 [(0, .ref h_0), (1, .int v1)] := hl
  have q0 := hts (.fieldLink RX6 148 "PatienceryModel" "done" "I") (List.mem_cons_of_mem _ mw_305)
  have inX6 : ∀ w ∈ u_ws RX6 TX6 32, w ∈ wtX6_undo := fun w h => List.mem_cons_of_mem _ (inlX6 w h)
  have q2 := hts (.fieldLink RX6 151 "PatienceryModel" "undone" "I") (List.mem_cons_of_mem _ mw_306)
  have q3 := hts (.fieldLink RX6 54 "PatienceryModel" "past" "[J") (List.mem_cons_of_mem _ mw_170)
  have B41 : ∀ (I_0 : Nat → Nat → Int32) (L_0 : Nat → Nat → Int64) (s0 : Int32) (H : Heap) (locs : List Loc) (ls : Array Slot), HS D A H0 [(h_0, oX6 h_0_of h_0_kept h_0_column h_0_size h_0_hidden h_0_cell h_0_home h_0_waste h_0_stock h_0_past h_0_start h_0_known h_0_sorted h_0_row h_0_best I_0), (h_0_of, eI cI 9 (I_0 1)), (h_0_kept, eI cI 9 (I_0 2)), (h_0_column, eJ cJ 5 (L_0 0)), (h_0_size, eI cI 5 (I_0 3)), (h_0_hidden, eI cI 5 (I_0 4)), (h_0_cell, eI cI 2 (I_0 5)), (h_0_home, eI cI 4 (I_0 6)), (h_0_waste, eI cI 8 (I_0 7)), (h_0_stock, eI cI 8 (I_0 8)), (h_0_past, eJ cJ 1616 (L_0 1)), (h_0_start, eJ cJ 8 (L_0 2)), (h_0_known, eJ cJ 3216 (L_0 3)), (h_0_sorted, eJ cJ 3216 (L_0 4)), (h_0_row, eI cI 16 (I_0 9)), (h_0_best, eJ cJ 8 (L_0 5))] H locs → lv_has ls 3 [(0, .ref h_0)] → F_X6_undo_b41   I_0 L_0 s0 = some (rv, r_I_0, r_L_0) → W p l e ({ frames := 1, cells := 0, slots := 0, locals := 25 } : Room) s m args below meth c H locs 0 0 Q (F0 m 41 ls [.int s0]) := by
    intro I_0 L_0 s0 H locs ls hS hl hF
    unfold F_X6_undo_b41 at hF
    refine lv_istore_n (lv' := [(2, .int s0), (0, .ref h_0)]) hx hb dX6_undo_41 rfl hl (by decide) rfl (fun ls hl => ?_)
    refine lv_aload_n hx hb dX6_undo_42 rfl (lv_at hl 1 rfl) ?_
    refine lv_dup hx hb dX6_undo_43 rfl ?_
    refine r_get hx hb hts inX6 hown hK hS 0 13 rfl rfl (by decide) q0 rfl dX6_undo_44 ?_
    refine lv_iload_n hx hb dX6_undo_47 rfl (lv_at hl 0 rfl) ?_
    refine lv_isub hx hb dX6_undo_48 ?_
    replace hF := bnd_e hF
    obtain ⟨I_0u1, eI_0u1, hF⟩ := hF
    refine r_put (w2 := [(h_0, oX6 h_0_of h_0_kept h_0_column h_0_size h_0_hidden h_0_cell h_0_home h_0_waste h_0_stock h_0_past h_0_start h_0_known h_0_sorted h_0_row h_0_best I_0u1), (h_0_of, eI cI 9 (I_0u1 1)), (h_0_kept, eI cI 9 (I_0u1 2)), (h_0_column, eJ cJ 5 (L_0 0)), (h_0_size, eI cI 5 (I_0u1 3)), (h_0_hidden, eI cI 5 (I_0u1 4)), (h_0_cell, eI cI 2 (I_0u1 5)), (h_0_home, eI cI 4 (I_0u1 6)), (h_0_waste, eI cI 8 (I_0u1 7)), (h_0_stock, eI cI 8 (I_0u1 8)), (h_0_past, eJ cJ 1616 (L_0 1)), (h_0_start, eJ cJ 8 (L_0 2)), (h_0_known, eJ cJ 3216 (L_0 3)), (h_0_sorted, eJ cJ 3216 (L_0 4)), (h_0_row, eI cI 16 (I_0u1 9)), (h_0_best, eJ cJ 8 (L_0 5))]) hx hb hts inX6 tyX6 tyX6_ok nmX6 hown hK hS 0 13 rfl rfl (by decide) q0 rfl rfl rfl (Nat.le_of_ble_eq_true rfl) dX6_undo_49 (by rw [eI_0u1]; rfl) (fun H locs hS => ?_)
    refine lv_aload_n hx hb dX6_undo_52 rfl (lv_at hl 1 rfl) ?_
    refine lv_dup hx hb dX6_undo_53 rfl ?_
    refine r_get hx hb hts inX6 hown hK hS 0 12 rfl rfl (by decide) q2 rfl dX6_undo_54 ?_
    refine lv_iload_n hx hb dX6_undo_57 rfl (lv_at hl 0 rfl) ?_
    refine lv_iadd hx hb dX6_undo_58 ?_
    replace hF := bnd_e hF
    obtain ⟨I_0u2, eI_0u2, hF⟩ := hF
    refine r_put (w2 := [(h_0, oX6 h_0_of h_0_kept h_0_column h_0_size h_0_hidden h_0_cell h_0_home h_0_waste h_0_stock h_0_past h_0_start h_0_known h_0_sorted h_0_row h_0_best I_0u2), (h_0_of, eI cI 9 (I_0u2 1)), (h_0_kept, eI cI 9 (I_0u2 2)), (h_0_column, eJ cJ 5 (L_0 0)), (h_0_size, eI cI 5 (I_0u2 3)), (h_0_hidden, eI cI 5 (I_0u2 4)), (h_0_cell, eI cI 2 (I_0u2 5)), (h_0_home, eI cI 4 (I_0u2 6)), (h_0_waste, eI cI 8 (I_0u2 7)), (h_0_stock, eI cI 8 (I_0u2 8)), (h_0_past, eJ cJ 1616 (L_0 1)), (h_0_start, eJ cJ 8 (L_0 2)), (h_0_known, eJ cJ 3216 (L_0 3)), (h_0_sorted, eJ cJ 3216 (L_0 4)), (h_0_row, eI cI 16 (I_0u2 9)), (h_0_best, eJ cJ 8 (L_0 5))]) hx hb hts inX6 tyX6 tyX6_ok nmX6 hown hK hS 0 12 rfl rfl (by decide) q2 rfl rfl rfl (Nat.le_of_ble_eq_true rfl) dX6_undo_59 (by rw [eI_0u2]; rfl) (fun H locs hS => ?_)
    refine lv_aload_n hx hb dX6_undo_62 rfl (lv_at hl 1 rfl) ?_
    refine lv_aload_n hx hb dX6_undo_63 rfl (lv_at hl 1 rfl) ?_
    refine r_get hx hb hts inX6 hown hK hS 0 25 rfl rfl (by decide) q3 rfl dX6_undo_64 ?_
    refine lv_bipush (v := (nI 8)) hx hb dX6_undo_67 (by decide) ?_
    refine lv_aload_n hx hb dX6_undo_69 rfl (lv_at hl 1 rfl) ?_
    refine r_get hx hb hts inX6 hown hK hS 0 13 rfl rfl (by decide) q0 rfl dX6_undo_70 ?_
    refine lv_imul hx hb dX6_undo_73 ?_
    replace hF := cal2_e hF
    obtain ⟨I_0u3, L_0u4, hc5, hF⟩ := hF
    refine kV_v (As := [.ref h_0_past, .int ((nI 8) * (I_0u2 0 13))]) (rest := []) (wr := []) (w2 := [(h_0, oX6 h_0_of h_0_kept h_0_column h_0_size h_0_hidden h_0_cell h_0_home h_0_waste h_0_stock h_0_past h_0_start h_0_known h_0_sorted h_0_row h_0_best I_0u3), (h_0_of, eI cI 9 (I_0u3 1)), (h_0_kept, eI cI 9 (I_0u3 2)), (h_0_column, eJ cJ 5 (L_0u4 0)), (h_0_size, eI cI 5 (I_0u3 3)), (h_0_hidden, eI cI 5 (I_0u3 4)), (h_0_cell, eI cI 2 (I_0u3 5)), (h_0_home, eI cI 4 (I_0u3 6)), (h_0_waste, eI cI 8 (I_0u3 7)), (h_0_stock, eI cI 8 (I_0u3 8)), (h_0_past, eJ cJ 1616 (L_0u4 1)), (h_0_start, eJ cJ 8 (L_0u4 2)), (h_0_known, eJ cJ 3216 (L_0u4 3)), (h_0_sorted, eJ cJ 3216 (L_0u4 4)), (h_0_row, eI cI 16 (I_0u3 9)), (h_0_best, eJ cJ 8 (L_0u4 5))]) hCF hK (c_X6_load_past l D cI cJ h_0 h_0_of h_0_kept h_0_column h_0_size h_0_hidden h_0_cell h_0_home h_0_waste h_0_stock h_0_past h_0_start h_0_known h_0_sorted h_0_row h_0_best I_0u2 L_0 ((nI 8) * (I_0u2 0 13)) I_0u3 L_0u4 hc5) (cwV 2 hts (TBL_V mw_331 mw_332 mw_333 mw_5 mw_334) rfl rfl rfl pmX6_load ⟨Nat.le_of_ble_eq_true rfl, Nat.le_of_ble_eq_true rfl⟩) hS hA [0, 1, 2, 3, 4, 5, 6, 7, 8, 9, 10, 11, 12, 13, 14, 15] [] rfl rfl rfl rfl (by decide) rfl rfl rfl hl.1 rfl (Nat.le_of_ble_eq_true rfl) ⟨Nat.zero_le _, Nat.zero_le _⟩ dX6_undo_74 rfl (fun H locs hS => ?_)
    refine lv_iload_n hx hb dX6_undo_77 rfl (lv_at hl 0 rfl) ?_
    have e9_0 := Option.some.inj hF
    obtain ⟨f9_0, e9_1⟩ := Prod.mk.inj e9_0
    obtain ⟨f9_1, e9_2⟩ := Prod.mk.inj e9_1
    subst f9_0
    subst f9_1
    subst e9_2
    exact kret _ _ _ _ hS dX6_undo_78
  have B17 : ∀ (I_0 : Nat → Nat → Int32) (L_0 : Nat → Nat → Int64) (v1 : Int32) (s1 : Int32) (H : Heap) (locs : List Loc) (ls : Array Slot), HS D A H0 [(h_0, oX6 h_0_of h_0_kept h_0_column h_0_size h_0_hidden h_0_cell h_0_home h_0_waste h_0_stock h_0_past h_0_start h_0_known h_0_sorted h_0_row h_0_best I_0), (h_0_of, eI cI 9 (I_0 1)), (h_0_kept, eI cI 9 (I_0 2)), (h_0_column, eJ cJ 5 (L_0 0)), (h_0_size, eI cI 5 (I_0 3)), (h_0_hidden, eI cI 5 (I_0 4)), (h_0_cell, eI cI 2 (I_0 5)), (h_0_home, eI cI 4 (I_0 6)), (h_0_waste, eI cI 8 (I_0 7)), (h_0_stock, eI cI 8 (I_0 8)), (h_0_past, eJ cJ 1616 (L_0 1)), (h_0_start, eJ cJ 8 (L_0 2)), (h_0_known, eJ cJ 3216 (L_0 3)), (h_0_sorted, eJ cJ 3216 (L_0 4)), (h_0_row, eI cI 16 (I_0 9)), (h_0_best, eJ cJ 8 (L_0 5))] H locs → lv_has ls 3 [(0, .ref h_0), (1, .int v1)] → F_X6_undo_b17   I_0 L_0 v1 s1 = some (rv, r_I_0, r_L_0) → W p l e ({ frames := 1, cells := 0, slots := 0, locals := 25 } : Room) s m args below meth c H locs 0 0 Q (F0 m 17 ls [.int s1, .ref h_0]) := by
    intro I_0 L_0 v1 s1 H locs ls hS hl hF
    unfold F_X6_undo_b17 at hF
    replace hF := cal2_e hF
    obtain ⟨x6, I_0u7, hc8, hF⟩ := hF
    refine kV_i (As := [.int s1]) (rest := []) (wr := []) (w2 := [(h_0, oX6 h_0_of h_0_kept h_0_column h_0_size h_0_hidden h_0_cell h_0_home h_0_waste h_0_stock h_0_past h_0_start h_0_known h_0_sorted h_0_row h_0_best I_0u7), (h_0_of, eI cI 9 (I_0u7 1)), (h_0_kept, eI cI 9 (I_0u7 2)), (h_0_column, eJ cJ 5 (L_0 0)), (h_0_size, eI cI 5 (I_0u7 3)), (h_0_hidden, eI cI 5 (I_0u7 4)), (h_0_cell, eI cI 2 (I_0u7 5)), (h_0_home, eI cI 4 (I_0u7 6)), (h_0_waste, eI cI 8 (I_0u7 7)), (h_0_stock, eI cI 8 (I_0u7 8)), (h_0_past, eJ cJ 1616 (L_0 1)), (h_0_start, eJ cJ 8 (L_0 2)), (h_0_known, eJ cJ 3216 (L_0 3)), (h_0_sorted, eJ cJ 3216 (L_0 4)), (h_0_row, eI cI 16 (I_0u7 9)), (h_0_best, eJ cJ 8 (L_0 5))]) hCF hK (c_X6_goesWell l D cI cJ h_0 h_0_of h_0_kept h_0_column h_0_size h_0_hidden h_0_cell h_0_home h_0_waste h_0_stock h_0_past h_0_start h_0_known h_0_sorted h_0_row h_0_best L_0 I_0 s1 x6 I_0u7 hc8) (cwV 1 hts (TBL_V mw_237 mw_238 mw_239 mw_5 mw_240) rfl rfl rfl pmX6_goesWell ⟨Nat.le_of_ble_eq_true rfl, Nat.le_of_ble_eq_true rfl⟩) hS hA [0, 1, 2, 3, 4, 5, 6, 7, 8, 9, 10, 11, 12, 13, 14, 15] [] rfl rfl rfl rfl (by decide) rfl rfl rfl hl.1 rfl (Nat.le_of_ble_eq_true rfl) ⟨Nat.zero_le _, Nat.zero_le _⟩ dX6_undo_17 rfl (fun H locs hS => ?_)
    refine lv_if_ne (tgt := 25) hx hb dX6_undo_20 (by decide) (fun c_9 => ?_) (fun c_9 => ?_)
    · replace hF := ifn hF c_9
      refine lv_iload_n hx hb dX6_undo_25 rfl (lv_at hl 1 rfl) ?_
      refine lv_aload_n hx hb dX6_undo_26 rfl (lv_at hl 0 rfl) ?_
      refine r_get hx hb hts inX6 hown hK hS 0 13 rfl rfl (by decide) q0 rfl dX6_undo_27 ?_
      refine lv_icmp_ge (tgt := 37) hx hb dX6_undo_30 (by decide) (fun c_10 => ?_) (fun c_10 => ?_)
      · replace hF := ifp hF c_10
        refine lv_aload_n hx hb dX6_undo_37 rfl (lv_at hl 0 rfl) ?_
        refine r_get hx hb hts inX6 hown hK hS 0 13 rfl rfl (by decide) q0 rfl dX6_undo_38 ?_
        exact B41 I_0u7 L_0 (I_0u7 0 13) _ _ _ hS (lv_sub hl [0] rfl) hF
      · replace hF := ifn hF c_10
        refine lv_iload_n hx hb dX6_undo_33 rfl (lv_at hl 1 rfl) ?_
        refine lv_goto (tgt := 41) hx hb dX6_undo_34 (by decide) ?_
        exact B41 I_0u7 L_0 v1 _ _ _ hS (lv_sub hl [0] rfl) hF
    · replace hF := ifp hF c_9
      refine lv_iconst (v := (nI 0)) hx hb dX6_undo_23 (by decide) ?_
      have e9_0 := Option.some.inj hF
      obtain ⟨f9_0, e9_1⟩ := Prod.mk.inj e9_0
      obtain ⟨f9_1, e9_2⟩ := Prod.mk.inj e9_1
      subst f9_0
      subst f9_1
      subst e9_2
      exact kret _ _ _ _ hS dX6_undo_24
  unfold F_X6_undo at hF
  refine lv_aload_n hx hb dX6_undo_0 rfl (lv_at hl 0 rfl) ?_
  refine lv_iload_n hx hb dX6_undo_1 rfl (lv_at hl 1 rfl) ?_
  refine lv_iconst (v := (nI 1)) hx hb dX6_undo_2 (by decide) ?_
  refine lv_sipush (v := (nI 200)) hx hb dX6_undo_3 (by decide) ?_
  replace hF := cal1_e hF
  obtain ⟨x11, hc12, hF⟩ := hF
  refine kS_i (As := [.int v1, .int (nI 1), .int (nI 200)]) (rest := [.ref h_0]) (wr := [(h_0, oX6 h_0_of h_0_kept h_0_column h_0_size h_0_hidden h_0_cell h_0_home h_0_waste h_0_stock h_0_past h_0_start h_0_known h_0_sorted h_0_row h_0_best I_0), (h_0_of, eI cI 9 (I_0 1)), (h_0_kept, eI cI 9 (I_0 2)), (h_0_column, eJ cJ 5 (L_0 0)), (h_0_size, eI cI 5 (I_0 3)), (h_0_hidden, eI cI 5 (I_0 4)), (h_0_cell, eI cI 2 (I_0 5)), (h_0_home, eI cI 4 (I_0 6)), (h_0_waste, eI cI 8 (I_0 7)), (h_0_stock, eI cI 8 (I_0 8)), (h_0_past, eJ cJ 1616 (L_0 1)), (h_0_start, eJ cJ 8 (L_0 2)), (h_0_known, eJ cJ 3216 (L_0 3)), (h_0_sorted, eJ cJ 3216 (L_0 4)), (h_0_row, eI cI 16 (I_0 9)), (h_0_best, eJ cJ 8 (L_0 5))]) (w2 := [(h_0, oX6 h_0_of h_0_kept h_0_column h_0_size h_0_hidden h_0_cell h_0_home h_0_waste h_0_stock h_0_past h_0_start h_0_known h_0_sorted h_0_row h_0_best I_0), (h_0_of, eI cI 9 (I_0 1)), (h_0_kept, eI cI 9 (I_0 2)), (h_0_column, eJ cJ 5 (L_0 0)), (h_0_size, eI cI 5 (I_0 3)), (h_0_hidden, eI cI 5 (I_0 4)), (h_0_cell, eI cI 2 (I_0 5)), (h_0_home, eI cI 4 (I_0 6)), (h_0_waste, eI cI 8 (I_0 7)), (h_0_stock, eI cI 8 (I_0 8)), (h_0_past, eJ cJ 1616 (L_0 1)), (h_0_start, eJ cJ 8 (L_0 2)), (h_0_known, eJ cJ 3216 (L_0 3)), (h_0_sorted, eJ cJ 3216 (L_0 4)), (h_0_row, eI cI 16 (I_0 9)), (h_0_best, eJ cJ 8 (L_0 5))]) hCF hK (c_X6_in l D cI cJ v1 (nI 1) (nI 200) x11 hc12) (va_cwS 3 hts (TBL_S mw_234 mw_235 mw_5 mw_236) rfl rfl rfl pmX6_in.2 ⟨Nat.le_of_ble_eq_true rfl, Nat.le_of_ble_eq_true rfl⟩) hS hA [] [0, 1, 2, 3, 4, 5, 6, 7, 8, 9, 10, 11, 12, 13, 14, 15] rfl rfl rfl rfl (by decide) rfl hl.1 rfl (Nat.le_of_ble_eq_true rfl) ⟨Nat.zero_le _, Nat.zero_le _⟩ dX6_undo_6 rfl (fun H locs hS => ?_)
  refine lv_if_eq (tgt := 16) hx hb dX6_undo_9 (by decide) (fun c_13 => ?_) (fun c_13 => ?_)
  · replace hF := ifp hF c_13
    refine lv_iconst (v := (nI 1)) hx hb dX6_undo_16 (by decide) ?_
    exact B17 I_0 L_0 v1 (nI 1) _ _ _ hS (lv_sub hl [0, 1] rfl) hF
  · replace hF := ifn hF c_13
    refine lv_iconst (v := (nI 0)) hx hb dX6_undo_12 (by decide) ?_
    refine lv_goto (tgt := 17) hx hb dX6_undo_13 (by decide) ?_
    exact B17 I_0 L_0 v1 (nI 0) _ _ _ hS (lv_sub hl [0, 1] rfl) hF
set_option maxHeartbeats 4000000 in
set_option maxRecDepth 100000 in
theorem c_X6_isSafe (l : Launch) (D : va_G) (cI cJ : ClassId) (h_0 h_0_of h_0_kept h_0_column h_0_size h_0_hidden h_0_cell h_0_home h_0_waste h_0_stock h_0_past h_0_start h_0_known h_0_sorted h_0_row h_0_best : Nat) (I_0 : Nat → Nat → Int32) (L_0 : Nat → Nat → Int64) (v1 : Int32) (rv : Int32) (hF : F_X6_isSafe I_0 L_0 v1 = some rv) : CtI l D [(cI, .int), (cJ, .long)] yX6_isSafe wtX6_isSafe ({ frames := 2, cells := 0, slots := 0, locals := 46 } : Room) [.ref h_0, .int v1] [(h_0, oX6 h_0_of h_0_kept h_0_column h_0_size h_0_hidden h_0_cell h_0_home h_0_waste h_0_stock h_0_past h_0_start h_0_known h_0_sorted h_0_row h_0_best I_0), (h_0_of, eI cI 9 (I_0 1)), (h_0_kept, eI cI 9 (I_0 2)), (h_0_column, eJ cJ 5 (L_0 0)), (h_0_size, eI cI 5 (I_0 3)), (h_0_hidden, eI cI 5 (I_0 4)), (h_0_cell, eI cI 2 (I_0 5)), (h_0_home, eI cI 4 (I_0 6)), (h_0_waste, eI cI 8 (I_0 7)), (h_0_stock, eI cI 8 (I_0 8)), (h_0_past, eJ cJ 1616 (L_0 1)), (h_0_start, eJ cJ 8 (L_0 2)), (h_0_known, eJ cJ 3216 (L_0 3)), (h_0_sorted, eJ cJ 3216 (L_0 4)), (h_0_row, eI cI 16 (I_0 9)), (h_0_best, eJ cJ 8 (L_0 5))] [(h_0, oX6 h_0_of h_0_kept h_0_column h_0_size h_0_hidden h_0_cell h_0_home h_0_waste h_0_stock h_0_past h_0_start h_0_known h_0_sorted h_0_row h_0_best I_0), (h_0_of, eI cI 9 (I_0 1)), (h_0_kept, eI cI 9 (I_0 2)), (h_0_column, eJ cJ 5 (L_0 0)), (h_0_size, eI cI 5 (I_0 3)), (h_0_hidden, eI cI 5 (I_0 4)), (h_0_cell, eI cI 2 (I_0 5)), (h_0_home, eI cI 4 (I_0 6)), (h_0_waste, eI cI 8 (I_0 7)), (h_0_stock, eI cI 8 (I_0 8)), (h_0_past, eJ cJ 1616 (L_0 1)), (h_0_start, eJ cJ 8 (L_0 2)), (h_0_known, eJ cJ 3216 (L_0 3)), (h_0_sorted, eJ cJ 3216 (L_0 4)), (h_0_row, eI cI 16 (I_0 9)), (h_0_best, eJ cJ 8 (L_0 5))] rv := by
  refine CtZ.of (cc := cX6_isSafe) (maxL := 4) (by decide) rfl (Nat.le_of_ble_eq_true rfl) ?_
  intro p e s m args below meth c A H0 Q ls X hS hl kret
  have hCF := X.1
  obtain ⟨⟨hx, hb, hml, hown, hts⟩, hK, hA⟩ := X
  have hl : lv_has ls 4 [(0, .ref h_0), (1, .int v1)] := hl
  have q0 := hts (.fieldLink RX6 25 "PatienceryModel" "of" "[I") (List.mem_cons_of_mem _ mw_161)
  have inX6 : ∀ w ∈ u_ws RX6 TX6 32, w ∈ wtX6_isSafe := fun w h => List.mem_cons_of_mem _ (inlX6 w h)
  have q2 := hts (.fieldLink RX6 45 "PatienceryModel" "home" "[I") (List.mem_cons_of_mem _ mw_167)
  have S4 : ∀ (K4 : Int32 → Int32 → Int32 → Option (Int32)) (_ : ∀ (v1 : Int32) (v2 : Int32) (v3 : Int32) (H : Heap) (locs : List Loc) (ls : Array Slot), HS D A H0 [(h_0, oX6 h_0_of h_0_kept h_0_column h_0_size h_0_hidden h_0_cell h_0_home h_0_waste h_0_stock h_0_past h_0_start h_0_known h_0_sorted h_0_row h_0_best I_0), (h_0_of, eI cI 9 (I_0 1)), (h_0_kept, eI cI 9 (I_0 2)), (h_0_column, eJ cJ 5 (L_0 0)), (h_0_size, eI cI 5 (I_0 3)), (h_0_hidden, eI cI 5 (I_0 4)), (h_0_cell, eI cI 2 (I_0 5)), (h_0_home, eI cI 4 (I_0 6)), (h_0_waste, eI cI 8 (I_0 7)), (h_0_stock, eI cI 8 (I_0 8)), (h_0_past, eJ cJ 1616 (L_0 1)), (h_0_start, eJ cJ 8 (L_0 2)), (h_0_known, eJ cJ 3216 (L_0 3)), (h_0_sorted, eJ cJ 3216 (L_0 4)), (h_0_row, eI cI 16 (I_0 9)), (h_0_best, eJ cJ 8 (L_0 5))] H locs → lv_has ls 4 [(0, .ref h_0), (1, .int v1), (2, .int v2), (3, .int v3)] → K4 v1 v2 v3 = some rv → W p l e ({ frames := 2, cells := 0, slots := 0, locals := 46 } : Room) s m args below meth c H locs 0 0 Q (F0 m 4 ls [])) (v1 : Int32) (v2 : Int32) (v3 : Int32) (H : Heap) (locs : List Loc) (ls : Array Slot), HS D A H0 [(h_0, oX6 h_0_of h_0_kept h_0_column h_0_size h_0_hidden h_0_cell h_0_home h_0_waste h_0_stock h_0_past h_0_start h_0_known h_0_sorted h_0_row h_0_best I_0), (h_0_of, eI cI 9 (I_0 1)), (h_0_kept, eI cI 9 (I_0 2)), (h_0_column, eJ cJ 5 (L_0 0)), (h_0_size, eI cI 5 (I_0 3)), (h_0_hidden, eI cI 5 (I_0 4)), (h_0_cell, eI cI 2 (I_0 5)), (h_0_home, eI cI 4 (I_0 6)), (h_0_waste, eI cI 8 (I_0 7)), (h_0_stock, eI cI 8 (I_0 8)), (h_0_past, eJ cJ 1616 (L_0 1)), (h_0_start, eJ cJ 8 (L_0 2)), (h_0_known, eJ cJ 3216 (L_0 3)), (h_0_sorted, eJ cJ 3216 (L_0 4)), (h_0_row, eI cI 16 (I_0 9)), (h_0_best, eJ cJ 8 (L_0 5))] H locs → lv_has ls 4 [(0, .ref h_0), (1, .int v1), (2, .int v2), (3, .int v3)] → F_X6_isSafe_s4 I_0 L_0 K4 v1 v2 v3 = some rv → W p l e ({ frames := 2, cells := 0, slots := 0, locals := 46 } : Room) s m args below meth c H locs 0 0 Q (F0 m 4 ls []) := by
    intro K4 hK4 v1 v2 v3 H locs ls hS hl hF
    unfold F_X6_isSafe_s4 at hF
    refine lv_iload_n hx hb dX6_isSafe_4 rfl (lv_at hl 3 rfl) ?_
    refine lv_aload_n hx hb dX6_isSafe_5 rfl (lv_at hl 0 rfl) ?_
    refine r_get hx hb hts inX6 hown hK hS 0 10 rfl rfl (by decide) q0 rfl dX6_isSafe_6 ?_
    refine lv_iconst (v := (nI 0)) hx hb dX6_isSafe_9 (by decide) ?_
    replace hF := rdA_e hF
    obtain ⟨hi2, x1, ex1, hF⟩ := hF
    refine r_iald hx hb hK hS 1 rfl rfl hi2 dX6_isSafe_10 ex1 ?_
    refine lv_aload_n hx hb dX6_isSafe_11 rfl (lv_at hl 0 rfl) ?_
    refine r_get hx hb hts inX6 hown hK hS 0 10 rfl rfl (by decide) q0 rfl dX6_isSafe_12 ?_
    refine lv_iconst (v := (nI 1)) hx hb dX6_isSafe_15 (by decide) ?_
    replace hF := rdA_e hF
    obtain ⟨hi4, x3, ex3, hF⟩ := hF
    refine r_iald hx hb hK hS 1 rfl rfl hi4 dX6_isSafe_16 ex3 ?_
    refine lv_imul hx hb dX6_isSafe_17 ?_
    refine lv_icmp_ge (tgt := 64) hx hb dX6_isSafe_18 (by decide) (fun c_5 => ?_) (fun c_5 => ?_)
    · replace hF := ifp hF c_5
      refine lv_iload_n hx hb dX6_isSafe_64 rfl (lv_at hl 2 rfl) ?_
      replace hF := zb_e hF
      obtain ⟨h01_6, hF⟩ := hF
      have e9_0 := Option.some.inj hF
      subst e9_0
      exact kret _ _ _ _ h01_6 hS dX6_isSafe_65
    · replace hF := ifn hF c_5
      refine lv_iload_n hx hb dX6_isSafe_21 rfl (lv_at hl 2 rfl) ?_
      refine lv_if_eq (tgt := 56) hx hb dX6_isSafe_22 (by decide) (fun c_7 => ?_) (fun c_7 => ?_)
      · replace hF := ifp hF c_7
        refine lv_iconst (v := (nI 0)) hx hb dX6_isSafe_56 (by decide) ?_
        refine lv_istore_n (lv' := [(2, .int (nI 0)), (0, .ref h_0), (1, .int v1), (3, .int v3)]) hx hb dX6_isSafe_57 rfl hl (by decide) rfl (fun ls hl => ?_)
        refine lv_iinc (v := v3 + (nI 1)) (lv' := [(3, .int (v3 + (nI 1))), (2, .int (nI 0)), (0, .ref h_0), (1, .int v1)]) hx hb dX6_isSafe_58 hl (k := 3) rfl rfl (by decide) rfl (fun ls hl => ?_)
        refine lv_goto (tgt := 4) hx hb dX6_isSafe_61 (by decide) ?_
        exact hK4 v1 (nI 0) (v3 + (nI 1)) _ _ _ hS (lv_sub hl [2, 3, 1, 0] rfl) hF
      · replace hF := ifn hF c_7
        refine lv_aload_n hx hb dX6_isSafe_25 rfl (lv_at hl 0 rfl) ?_
        refine lv_iload_n hx hb dX6_isSafe_26 rfl (lv_at hl 3 rfl) ?_
        replace hF := cal1_e hF
        obtain ⟨x8, hc9, hF⟩ := hF
        refine kV_i (As := [.int v3]) (rest := []) (wr := []) (w2 := [(h_0, oX6 h_0_of h_0_kept h_0_column h_0_size h_0_hidden h_0_cell h_0_home h_0_waste h_0_stock h_0_past h_0_start h_0_known h_0_sorted h_0_row h_0_best I_0), (h_0_of, eI cI 9 (I_0 1)), (h_0_kept, eI cI 9 (I_0 2)), (h_0_column, eJ cJ 5 (L_0 0)), (h_0_size, eI cI 5 (I_0 3)), (h_0_hidden, eI cI 5 (I_0 4)), (h_0_cell, eI cI 2 (I_0 5)), (h_0_home, eI cI 4 (I_0 6)), (h_0_waste, eI cI 8 (I_0 7)), (h_0_stock, eI cI 8 (I_0 8)), (h_0_past, eJ cJ 1616 (L_0 1)), (h_0_start, eJ cJ 8 (L_0 2)), (h_0_known, eJ cJ 3216 (L_0 3)), (h_0_sorted, eJ cJ 3216 (L_0 4)), (h_0_row, eI cI 16 (I_0 9)), (h_0_best, eJ cJ 8 (L_0 5))]) hCF hK (c_X6_rankOf l D cI cJ h_0 h_0_of h_0_kept h_0_column h_0_size h_0_hidden h_0_cell h_0_home h_0_waste h_0_stock h_0_past h_0_start h_0_known h_0_sorted h_0_row h_0_best I_0 L_0 v3 x8 hc9) (cwV 1 hts (TBL_V mw_473 mw_474 mw_475 mw_5 mw_476) rfl rfl rfl pmX6_rankOf ⟨Nat.le_of_ble_eq_true rfl, Nat.le_of_ble_eq_true rfl⟩) hS hA [0, 1, 2, 3, 4, 5, 6, 7, 8, 9, 10, 11, 12, 13, 14, 15] [] rfl rfl rfl rfl (by decide) rfl rfl rfl hl.1 rfl (Nat.le_of_ble_eq_true rfl) ⟨Nat.zero_le _, Nat.zero_le _⟩ dX6_isSafe_27 rfl (fun H locs hS => ?_)
        refine lv_aload_n hx hb dX6_isSafe_30 rfl (lv_at hl 0 rfl) ?_
        refine r_get hx hb hts inX6 hown hK hS 0 19 rfl rfl (by decide) q2 rfl dX6_isSafe_31 ?_
        refine lv_aload_n hx hb dX6_isSafe_34 rfl (lv_at hl 0 rfl) ?_
        refine lv_iload_n hx hb dX6_isSafe_35 rfl (lv_at hl 3 rfl) ?_
        replace hF := cal1_e hF
        obtain ⟨x10, hc11, hF⟩ := hF
        refine kV_i (As := [.int v3]) (rest := [.ref h_0_home, .int x8]) (wr := []) (w2 := [(h_0, oX6 h_0_of h_0_kept h_0_column h_0_size h_0_hidden h_0_cell h_0_home h_0_waste h_0_stock h_0_past h_0_start h_0_known h_0_sorted h_0_row h_0_best I_0), (h_0_of, eI cI 9 (I_0 1)), (h_0_kept, eI cI 9 (I_0 2)), (h_0_column, eJ cJ 5 (L_0 0)), (h_0_size, eI cI 5 (I_0 3)), (h_0_hidden, eI cI 5 (I_0 4)), (h_0_cell, eI cI 2 (I_0 5)), (h_0_home, eI cI 4 (I_0 6)), (h_0_waste, eI cI 8 (I_0 7)), (h_0_stock, eI cI 8 (I_0 8)), (h_0_past, eJ cJ 1616 (L_0 1)), (h_0_start, eJ cJ 8 (L_0 2)), (h_0_known, eJ cJ 3216 (L_0 3)), (h_0_sorted, eJ cJ 3216 (L_0 4)), (h_0_row, eI cI 16 (I_0 9)), (h_0_best, eJ cJ 8 (L_0 5))]) hCF hK (c_X6_suitOf l D cI cJ h_0 h_0_of h_0_kept h_0_column h_0_size h_0_hidden h_0_cell h_0_home h_0_waste h_0_stock h_0_past h_0_start h_0_known h_0_sorted h_0_row h_0_best I_0 L_0 v3 x10 hc11) (cwV 1 hts (TBL_V mw_469 mw_470 mw_471 mw_5 mw_472) rfl rfl rfl pmX6_suitOf ⟨Nat.le_of_ble_eq_true rfl, Nat.le_of_ble_eq_true rfl⟩) hS hA [0, 1, 2, 3, 4, 5, 6, 7, 8, 9, 10, 11, 12, 13, 14, 15] [] rfl rfl rfl rfl (by decide) rfl rfl rfl hl.1 rfl (Nat.le_of_ble_eq_true rfl) ⟨Nat.zero_le _, Nat.zero_le _⟩ dX6_isSafe_36 rfl (fun H locs hS => ?_)
        replace hF := rdA_e hF
        obtain ⟨hi13, x12, ex12, hF⟩ := hF
        refine r_iald hx hb hK hS 7 rfl rfl hi13 dX6_isSafe_39 ex12 ?_
        refine lv_icmp_le (tgt := 52) hx hb dX6_isSafe_40 (by decide) (fun c_14 => ?_) (fun c_14 => ?_)
        · replace hF := ifp hF c_14
          refine lv_iconst (v := (nI 1)) hx hb dX6_isSafe_52 (by decide) ?_
          refine lv_goto (tgt := 57) hx hb dX6_isSafe_53 (by decide) ?_
          refine lv_istore_n (lv' := [(2, .int (nI 1)), (0, .ref h_0), (1, .int v1), (3, .int v3)]) hx hb dX6_isSafe_57 rfl hl (by decide) rfl (fun ls hl => ?_)
          refine lv_iinc (v := v3 + (nI 1)) (lv' := [(3, .int (v3 + (nI 1))), (2, .int (nI 1)), (0, .ref h_0), (1, .int v1)]) hx hb dX6_isSafe_58 hl (k := 3) rfl rfl (by decide) rfl (fun ls hl => ?_)
          refine lv_goto (tgt := 4) hx hb dX6_isSafe_61 (by decide) ?_
          exact hK4 v1 (nI 1) (v3 + (nI 1)) _ _ _ hS (lv_sub hl [2, 3, 1, 0] rfl) hF
        · replace hF := ifn hF c_14
          refine lv_aload_n hx hb dX6_isSafe_43 rfl (lv_at hl 0 rfl) ?_
          refine lv_iload_n hx hb dX6_isSafe_44 rfl (lv_at hl 3 rfl) ?_
          refine lv_iload_n hx hb dX6_isSafe_45 rfl (lv_at hl 1 rfl) ?_
          replace hF := cal1_e hF
          obtain ⟨x15, hc16, hF⟩ := hF
          refine kV_i (As := [.int v3, .int v1]) (rest := []) (wr := []) (w2 := [(h_0, oX6 h_0_of h_0_kept h_0_column h_0_size h_0_hidden h_0_cell h_0_home h_0_waste h_0_stock h_0_past h_0_start h_0_known h_0_sorted h_0_row h_0_best I_0), (h_0_of, eI cI 9 (I_0 1)), (h_0_kept, eI cI 9 (I_0 2)), (h_0_column, eJ cJ 5 (L_0 0)), (h_0_size, eI cI 5 (I_0 3)), (h_0_hidden, eI cI 5 (I_0 4)), (h_0_cell, eI cI 2 (I_0 5)), (h_0_home, eI cI 4 (I_0 6)), (h_0_waste, eI cI 8 (I_0 7)), (h_0_stock, eI cI 8 (I_0 8)), (h_0_past, eJ cJ 1616 (L_0 1)), (h_0_start, eJ cJ 8 (L_0 2)), (h_0_known, eJ cJ 3216 (L_0 3)), (h_0_sorted, eJ cJ 3216 (L_0 4)), (h_0_row, eI cI 16 (I_0 9)), (h_0_best, eJ cJ 8 (L_0 5))]) hCF hK (c_X6_fits l D cI cJ h_0 h_0_of h_0_kept h_0_column h_0_size h_0_hidden h_0_cell h_0_home h_0_waste h_0_stock h_0_past h_0_start h_0_known h_0_sorted h_0_row h_0_best I_0 L_0 v3 v1 x15 hc16) (cwV 2 hts (TBL_V mw_465 mw_466 mw_467 mw_5 mw_468) rfl rfl rfl pmX6_fits ⟨Nat.le_of_ble_eq_true rfl, Nat.le_of_ble_eq_true rfl⟩) hS hA [0, 1, 2, 3, 4, 5, 6, 7, 8, 9, 10, 11, 12, 13, 14, 15] [] rfl rfl rfl rfl (by decide) rfl rfl rfl hl.1 rfl (Nat.le_of_ble_eq_true rfl) ⟨Nat.zero_le _, Nat.zero_le _⟩ dX6_isSafe_46 rfl (fun H locs hS => ?_)
          refine lv_if_ne (tgt := 56) hx hb dX6_isSafe_49 (by decide) (fun c_17 => ?_) (fun c_17 => ?_)
          · replace hF := ifn hF c_17
            refine lv_iconst (v := (nI 0)) hx hb dX6_isSafe_56 (by decide) ?_
            refine lv_istore_n (lv' := [(2, .int (nI 0)), (0, .ref h_0), (1, .int v1), (3, .int v3)]) hx hb dX6_isSafe_57 rfl hl (by decide) rfl (fun ls hl => ?_)
            refine lv_iinc (v := v3 + (nI 1)) (lv' := [(3, .int (v3 + (nI 1))), (2, .int (nI 0)), (0, .ref h_0), (1, .int v1)]) hx hb dX6_isSafe_58 hl (k := 3) rfl rfl (by decide) rfl (fun ls hl => ?_)
            refine lv_goto (tgt := 4) hx hb dX6_isSafe_61 (by decide) ?_
            exact hK4 v1 (nI 0) (v3 + (nI 1)) _ _ _ hS (lv_sub hl [2, 3, 1, 0] rfl) hF
          · replace hF := ifp hF c_17
            refine lv_iconst (v := (nI 1)) hx hb dX6_isSafe_52 (by decide) ?_
            refine lv_goto (tgt := 57) hx hb dX6_isSafe_53 (by decide) ?_
            refine lv_istore_n (lv' := [(2, .int (nI 1)), (0, .ref h_0), (1, .int v1), (3, .int v3)]) hx hb dX6_isSafe_57 rfl hl (by decide) rfl (fun ls hl => ?_)
            refine lv_iinc (v := v3 + (nI 1)) (lv' := [(3, .int (v3 + (nI 1))), (2, .int (nI 1)), (0, .ref h_0), (1, .int v1)]) hx hb dX6_isSafe_58 hl (k := 3) rfl rfl (by decide) rfl (fun ls hl => ?_)
            refine lv_goto (tgt := 4) hx hb dX6_isSafe_61 (by decide) ?_
            exact hK4 v1 (nI 1) (v3 + (nI 1)) _ _ _ hS (lv_sub hl [2, 3, 1, 0] rfl) hF
  have L4 : ∀  (n : Nat) (v1 : Int32) (v2 : Int32) (v3 : Int32) (H : Heap) (locs : List Loc) (ls : Array Slot), HS D A H0 [(h_0, oX6 h_0_of h_0_kept h_0_column h_0_size h_0_hidden h_0_cell h_0_home h_0_waste h_0_stock h_0_past h_0_start h_0_known h_0_sorted h_0_row h_0_best I_0), (h_0_of, eI cI 9 (I_0 1)), (h_0_kept, eI cI 9 (I_0 2)), (h_0_column, eJ cJ 5 (L_0 0)), (h_0_size, eI cI 5 (I_0 3)), (h_0_hidden, eI cI 5 (I_0 4)), (h_0_cell, eI cI 2 (I_0 5)), (h_0_home, eI cI 4 (I_0 6)), (h_0_waste, eI cI 8 (I_0 7)), (h_0_stock, eI cI 8 (I_0 8)), (h_0_past, eJ cJ 1616 (L_0 1)), (h_0_start, eJ cJ 8 (L_0 2)), (h_0_known, eJ cJ 3216 (L_0 3)), (h_0_sorted, eJ cJ 3216 (L_0 4)), (h_0_row, eI cI 16 (I_0 9)), (h_0_best, eJ cJ 8 (L_0 5))] H locs → lv_has ls 4 [(0, .ref h_0), (1, .int v1), (2, .int v2), (3, .int v3)] → F_X6_isSafe_L4 I_0 L_0  n v1 v2 v3 = some rv → W p l e ({ frames := 2, cells := 0, slots := 0, locals := 46 } : Room) s m args below meth c H locs 0 0 Q (F0 m 4 ls []) := by
    intro  n
    induction n with
    | zero => intro v1 v2 v3 H locs ls hS hl hF; exact nomatch (show (none : Option (Int32)) = some _ from hF)
    | succ n ih => intro v1 v2 v3 H locs ls hS hl hF; exact S4  _ ih v1 v2 v3 H locs ls hS hl hF
  unfold F_X6_isSafe at hF
  refine lv_iconst (v := (nI 1)) hx hb dX6_isSafe_0 (by decide) ?_
  refine lv_istore_n (lv' := [(2, .int (nI 1)), (0, .ref h_0), (1, .int v1)]) hx hb dX6_isSafe_1 rfl hl (by decide) rfl (fun ls hl => ?_)
  refine lv_iconst (v := (nI 0)) hx hb dX6_isSafe_2 (by decide) ?_
  refine lv_istore_n (lv' := [(3, .int (nI 0)), (2, .int (nI 1)), (0, .ref h_0), (1, .int v1)]) hx hb dX6_isSafe_3 rfl hl (by decide) rfl (fun ls hl => ?_)
  exact L4 FU v1 (nI 1) (nI 0) _ _ _ hS (lv_sub hl [2, 3, 1, 0] rfl) hF
