set_option maxHeartbeats 4000000 in
set_option maxRecDepth 100000 in
theorem c_X6_thrown (l : Launch) (D : va_G) (cI cJ : ClassId) (h_0 h_0_of h_0_kept h_0_column h_0_size h_0_hidden h_0_cell h_0_home h_0_waste h_0_stock h_0_past h_0_start h_0_known h_0_sorted h_0_row h_0_best : Nat) (I_0 : Nat → Nat → Int32) (L_0 : Nat → Nat → Int64) (rv : Int32) (hF : F_X6_thrown I_0 L_0 = some rv) : CtI l D [(cI, .int), (cJ, .long)] yX6_thrown wtX6_thrown ({ frames := 0, cells := 0, slots := 0, locals := 0 } : Room) [.ref h_0] [(h_0, oX6 h_0_of h_0_kept h_0_column h_0_size h_0_hidden h_0_cell h_0_home h_0_waste h_0_stock h_0_past h_0_start h_0_known h_0_sorted h_0_row h_0_best I_0), (h_0_of, eI cI 9 (I_0 1)), (h_0_kept, eI cI 9 (I_0 2)), (h_0_column, eJ cJ 5 (L_0 0)), (h_0_size, eI cI 5 (I_0 3)), (h_0_hidden, eI cI 5 (I_0 4)), (h_0_cell, eI cI 2 (I_0 5)), (h_0_home, eI cI 4 (I_0 6)), (h_0_waste, eI cI 8 (I_0 7)), (h_0_stock, eI cI 8 (I_0 8)), (h_0_past, eJ cJ 1616 (L_0 1)), (h_0_start, eJ cJ 8 (L_0 2)), (h_0_known, eJ cJ 3216 (L_0 3)), (h_0_sorted, eJ cJ 3216 (L_0 4)), (h_0_row, eI cI 16 (I_0 9)), (h_0_best, eJ cJ 8 (L_0 5))] [(h_0, oX6 h_0_of h_0_kept h_0_column h_0_size h_0_hidden h_0_cell h_0_home h_0_waste h_0_stock h_0_past h_0_start h_0_known h_0_sorted h_0_row h_0_best I_0), (h_0_of, eI cI 9 (I_0 1)), (h_0_kept, eI cI 9 (I_0 2)), (h_0_column, eJ cJ 5 (L_0 0)), (h_0_size, eI cI 5 (I_0 3)), (h_0_hidden, eI cI 5 (I_0 4)), (h_0_cell, eI cI 2 (I_0 5)), (h_0_home, eI cI 4 (I_0 6)), (h_0_waste, eI cI 8 (I_0 7)), (h_0_stock, eI cI 8 (I_0 8)), (h_0_past, eJ cJ 1616 (L_0 1)), (h_0_start, eJ cJ 8 (L_0 2)), (h_0_known, eJ cJ 3216 (L_0 3)), (h_0_sorted, eJ cJ 3216 (L_0 4)), (h_0_row, eI cI 16 (I_0 9)), (h_0_best, eJ cJ 8 (L_0 5))] rv := by
  refine CtI.of (cc := cX6_thrown) (maxL := 1) (by decide) rfl (Nat.le_of_ble_eq_true rfl) ?_
  intro p e s m args below meth c A H0 Q ls X hS hl kret
  have hCF := X.1
  obtain ⟨⟨hx, hb, hml, hown, hts⟩, hK, hA⟩ := X
  have hl : lv_has ls 1 [(0, .ref h_0)] := hl
  have q0 := hts (.fieldLink RX6 83 "PatienceryModel" "thrown" "I") (List.mem_cons_of_mem _ mw_241)
  have inX6 : ∀ w ∈ u_ws RX6 TX6 32, w ∈ wtX6_thrown := fun w h => List.mem_cons_of_mem _ (inlX6 w h)
  unfold F_X6_thrown at hF
  refine lv_aload_n hx hb dX6_thrown_0 rfl (lv_at hl 0 rfl) ?_
  refine r_get hx hb hts inX6 hown hK hS 0 0 rfl rfl (by decide) q0 rfl dX6_thrown_1 ?_
  have e9_0 := Option.some.inj hF
  subst e9_0
  exact kret _ _ _ _ hS dX6_thrown_4
set_option maxHeartbeats 4000000 in
set_option maxRecDepth 100000 in
theorem c_X6_goesWell (l : Launch) (D : va_G) (cI cJ : ClassId) (h_0 h_0_of h_0_kept h_0_column h_0_size h_0_hidden h_0_cell h_0_home h_0_waste h_0_stock h_0_past h_0_start h_0_known h_0_sorted h_0_row h_0_best : Nat) (L_0 : Nat → Nat → Int64) (I_0 : Nat → Nat → Int32) (v1 : Int32) (rv : Int32) (r_I_0 : Nat → Nat → Int32) (hF : F_X6_goesWell L_0 I_0 v1 = some (rv, r_I_0)) : CtI l D [(cI, .int), (cJ, .long)] yX6_goesWell wtX6_goesWell ({ frames := 0, cells := 0, slots := 0, locals := 0 } : Room) [.ref h_0, .int v1] [(h_0, oX6 h_0_of h_0_kept h_0_column h_0_size h_0_hidden h_0_cell h_0_home h_0_waste h_0_stock h_0_past h_0_start h_0_known h_0_sorted h_0_row h_0_best I_0), (h_0_of, eI cI 9 (I_0 1)), (h_0_kept, eI cI 9 (I_0 2)), (h_0_column, eJ cJ 5 (L_0 0)), (h_0_size, eI cI 5 (I_0 3)), (h_0_hidden, eI cI 5 (I_0 4)), (h_0_cell, eI cI 2 (I_0 5)), (h_0_home, eI cI 4 (I_0 6)), (h_0_waste, eI cI 8 (I_0 7)), (h_0_stock, eI cI 8 (I_0 8)), (h_0_past, eJ cJ 1616 (L_0 1)), (h_0_start, eJ cJ 8 (L_0 2)), (h_0_known, eJ cJ 3216 (L_0 3)), (h_0_sorted, eJ cJ 3216 (L_0 4)), (h_0_row, eI cI 16 (I_0 9)), (h_0_best, eJ cJ 8 (L_0 5))] [(h_0, oX6 h_0_of h_0_kept h_0_column h_0_size h_0_hidden h_0_cell h_0_home h_0_waste h_0_stock h_0_past h_0_start h_0_known h_0_sorted h_0_row h_0_best r_I_0), (h_0_of, eI cI 9 (r_I_0 1)), (h_0_kept, eI cI 9 (r_I_0 2)), (h_0_column, eJ cJ 5 (L_0 0)), (h_0_size, eI cI 5 (r_I_0 3)), (h_0_hidden, eI cI 5 (r_I_0 4)), (h_0_cell, eI cI 2 (r_I_0 5)), (h_0_home, eI cI 4 (r_I_0 6)), (h_0_waste, eI cI 8 (r_I_0 7)), (h_0_stock, eI cI 8 (r_I_0 8)), (h_0_past, eJ cJ 1616 (L_0 1)), (h_0_start, eJ cJ 8 (L_0 2)), (h_0_known, eJ cJ 3216 (L_0 3)), (h_0_sorted, eJ cJ 3216 (L_0 4)), (h_0_row, eI cI 16 (r_I_0 9)), (h_0_best, eJ cJ 8 (L_0 5))] rv := by
  refine CtZ.of (cc := cX6_goesWell) (maxL := 2) (by decide) rfl (Nat.le_of_ble_eq_true rfl) ?_
  intro p e s m args below meth c A H0 Q ls X hS hl kret
  have hCF := X.1
  obtain ⟨⟨hx, hb, hml, hown, hts⟩, hK, hA⟩ := X
  have hl : lv_has ls 2 [(0, .ref h_0), (1, .int v1)] := hl
  have q0 := hts (.fieldLink RX6 83 "PatienceryModel" "thrown" "I") (List.mem_cons_of_mem _ mw_241)
  have inX6 : ∀ w ∈ u_ws RX6 TX6 32, w ∈ wtX6_goesWell := fun w h => List.mem_cons_of_mem _ (inlX6 w h)
  unfold F_X6_goesWell at hF
  refine lv_aload_n hx hb dX6_goesWell_0 rfl (lv_at hl 0 rfl) ?_
  refine lv_iload_n hx hb dX6_goesWell_1 rfl (lv_at hl 1 rfl) ?_
  replace hF := bnd_e hF
  obtain ⟨I_0u1, eI_0u1, hF⟩ := hF
  refine r_put (w2 := [(h_0, oX6 h_0_of h_0_kept h_0_column h_0_size h_0_hidden h_0_cell h_0_home h_0_waste h_0_stock h_0_past h_0_start h_0_known h_0_sorted h_0_row h_0_best I_0u1), (h_0_of, eI cI 9 (I_0u1 1)), (h_0_kept, eI cI 9 (I_0u1 2)), (h_0_column, eJ cJ 5 (L_0 0)), (h_0_size, eI cI 5 (I_0u1 3)), (h_0_hidden, eI cI 5 (I_0u1 4)), (h_0_cell, eI cI 2 (I_0u1 5)), (h_0_home, eI cI 4 (I_0u1 6)), (h_0_waste, eI cI 8 (I_0u1 7)), (h_0_stock, eI cI 8 (I_0u1 8)), (h_0_past, eJ cJ 1616 (L_0 1)), (h_0_start, eJ cJ 8 (L_0 2)), (h_0_known, eJ cJ 3216 (L_0 3)), (h_0_sorted, eJ cJ 3216 (L_0 4)), (h_0_row, eI cI 16 (I_0u1 9)), (h_0_best, eJ cJ 8 (L_0 5))]) hx hb hts inX6 tyX6 tyX6_ok nmX6 hown hK hS 0 0 rfl rfl (by decide) q0 rfl rfl rfl (Nat.le_of_ble_eq_true rfl) dX6_goesWell_2 (by rw [eI_0u1]; rfl) (fun H locs hS => ?_)
  refine lv_iload_n hx hb dX6_goesWell_5 rfl (lv_at hl 1 rfl) ?_
  refine lv_if_ne (tgt := 13) hx hb dX6_goesWell_6 (by decide) (fun c_2 => ?_) (fun c_2 => ?_)
  · replace hF := ifn hF c_2
    refine lv_iconst (v := (nI 0)) hx hb dX6_goesWell_13 (by decide) ?_
    replace hF := zb_e hF
    obtain ⟨h01_3, hF⟩ := hF
    have e9_0 := Option.some.inj hF
    obtain ⟨f9_0, e9_1⟩ := Prod.mk.inj e9_0
    subst f9_0
    subst e9_1
    exact kret _ _ _ _ h01_3 hS dX6_goesWell_14
  · replace hF := ifp hF c_2
    refine lv_iconst (v := (nI 1)) hx hb dX6_goesWell_9 (by decide) ?_
    refine lv_goto (tgt := 14) hx hb dX6_goesWell_10 (by decide) ?_
    replace hF := zb_e hF
    obtain ⟨h01_4, hF⟩ := hF
    have e9_0 := Option.some.inj hF
    obtain ⟨f9_0, e9_1⟩ := Prod.mk.inj e9_0
    subst f9_0
    subst e9_1
    exact kret _ _ _ _ h01_4 hS dX6_goesWell_14
set_option maxHeartbeats 4000000 in
set_option maxRecDepth 100000 in
theorem c_X6_in (l : Launch) (D : va_G) (cI cJ : ClassId) (v0 : Int32) (v1 : Int32) (v2 : Int32) (rv : Int32) (hF : F_X6_in v0 v1 v2 = some rv) : CtI l D [(cI, .int), (cJ, .long)] yX6_in wtX6_in ({ frames := 0, cells := 0, slots := 0, locals := 0 } : Room) [.int v0, .int v1, .int v2] [] [] rv := by
  refine CtZ.of (cc := cX6_in) (maxL := 3) (by decide) rfl (Nat.le_of_ble_eq_true rfl) ?_
  intro p e s m args below meth c A H0 Q ls X hS hl kret
  have hCF := X.1
  obtain ⟨⟨hx, hb, hml, hown, hts⟩, hK, hA⟩ := X
  have hl : lv_has ls 3 [(0, .int v0), (1, .int v1), (2, .int v2)] := hl
  unfold F_X6_in at hF
  refine lv_iload_n hx hb dX6_in_0 rfl (lv_at hl 0 rfl) ?_
  refine lv_iload_n hx hb dX6_in_1 rfl (lv_at hl 1 rfl) ?_
  refine lv_icmp_lt (tgt := 14) hx hb dX6_in_2 (by decide) (fun c_1 => ?_) (fun c_1 => ?_)
  · replace hF := ifp hF c_1
    refine lv_iconst (v := (nI 0)) hx hb dX6_in_14 (by decide) ?_
    replace hF := zb_e hF
    obtain ⟨h01_2, hF⟩ := hF
    have e9_0 := Option.some.inj hF
    subst e9_0
    exact kret _ _ _ _ h01_2 hS dX6_in_15
  · replace hF := ifn hF c_1
    refine lv_iload_n hx hb dX6_in_5 rfl (lv_at hl 0 rfl) ?_
    refine lv_iload_n hx hb dX6_in_6 rfl (lv_at hl 2 rfl) ?_
    refine lv_icmp_gt (tgt := 14) hx hb dX6_in_7 (by decide) (fun c_3 => ?_) (fun c_3 => ?_)
    · replace hF := ifp hF c_3
      refine lv_iconst (v := (nI 0)) hx hb dX6_in_14 (by decide) ?_
      replace hF := zb_e hF
      obtain ⟨h01_4, hF⟩ := hF
      have e9_0 := Option.some.inj hF
      subst e9_0
      exact kret _ _ _ _ h01_4 hS dX6_in_15
    · replace hF := ifn hF c_3
      refine lv_iconst (v := (nI 1)) hx hb dX6_in_10 (by decide) ?_
      refine lv_goto (tgt := 15) hx hb dX6_in_11 (by decide) ?_
      replace hF := zb_e hF
      obtain ⟨h01_5, hF⟩ := hF
      have e9_0 := Option.some.inj hF
      subst e9_0
      exact kret _ _ _ _ h01_5 hS dX6_in_15
set_option maxHeartbeats 4000000 in
set_option maxRecDepth 100000 in
theorem c_X6_takeRules (l : Launch) (D : va_G) (cI cJ : ClassId) (h_0 h_0_of h_0_kept h_0_column h_0_size h_0_hidden h_0_cell h_0_home h_0_waste h_0_stock h_0_past h_0_start h_0_known h_0_sorted h_0_row h_0_best : Nat) (L_0 : Nat → Nat → Int64) (I_0 : Nat → Nat → Int32) (r_I_0 : Nat → Nat → Int32) (hF : F_X6_takeRules L_0 I_0 = some r_I_0) : CtV l D [(cI, .int), (cJ, .long)] yX6_takeRules wtX6_takeRules ({ frames := 0, cells := 0, slots := 0, locals := 0 } : Room) [.ref h_0] [(h_0, oX6 h_0_of h_0_kept h_0_column h_0_size h_0_hidden h_0_cell h_0_home h_0_waste h_0_stock h_0_past h_0_start h_0_known h_0_sorted h_0_row h_0_best I_0), (h_0_of, eI cI 9 (I_0 1)), (h_0_kept, eI cI 9 (I_0 2)), (h_0_column, eJ cJ 5 (L_0 0)), (h_0_size, eI cI 5 (I_0 3)), (h_0_hidden, eI cI 5 (I_0 4)), (h_0_cell, eI cI 2 (I_0 5)), (h_0_home, eI cI 4 (I_0 6)), (h_0_waste, eI cI 8 (I_0 7)), (h_0_stock, eI cI 8 (I_0 8)), (h_0_past, eJ cJ 1616 (L_0 1)), (h_0_start, eJ cJ 8 (L_0 2)), (h_0_known, eJ cJ 3216 (L_0 3)), (h_0_sorted, eJ cJ 3216 (L_0 4)), (h_0_row, eI cI 16 (I_0 9)), (h_0_best, eJ cJ 8 (L_0 5))] [(h_0, oX6 h_0_of h_0_kept h_0_column h_0_size h_0_hidden h_0_cell h_0_home h_0_waste h_0_stock h_0_past h_0_start h_0_known h_0_sorted h_0_row h_0_best r_I_0), (h_0_of, eI cI 9 (r_I_0 1)), (h_0_kept, eI cI 9 (r_I_0 2)), (h_0_column, eJ cJ 5 (L_0 0)), (h_0_size, eI cI 5 (r_I_0 3)), (h_0_hidden, eI cI 5 (r_I_0 4)), (h_0_cell, eI cI 2 (r_I_0 5)), (h_0_home, eI cI 4 (r_I_0 6)), (h_0_waste, eI cI 8 (r_I_0 7)), (h_0_stock, eI cI 8 (r_I_0 8)), (h_0_past, eJ cJ 1616 (L_0 1)), (h_0_start, eJ cJ 8 (L_0 2)), (h_0_known, eJ cJ 3216 (L_0 3)), (h_0_sorted, eJ cJ 3216 (L_0 4)), (h_0_row, eI cI 16 (r_I_0 9)), (h_0_best, eJ cJ 8 (L_0 5))] := by
  refine CtV.of (cc := cX6_takeRules) (maxL := 1) (by decide) rfl (Nat.le_of_ble_eq_true rfl) ?_
  intro p e s m args below meth c A H0 Q ls X hS hl kret
  have hCF := X.1
  obtain ⟨⟨hx, hb, hml, hown, hts⟩, hK, hA⟩ := X
  have hl : lv_has ls 1 [(0, .ref h_0)] := hl
  have q0 := hts (.fieldLink RX6 25 "PatienceryModel" "of" "[I") (List.mem_cons_of_mem _ mw_161)
  have inX6 : ∀ w ∈ u_ws RX6 TX6 32, w ∈ wtX6_takeRules := fun w h => List.mem_cons_of_mem _ (inlX6 w h)
  have q2 := hts (.fieldLink RX6 7 "PatienceryModel" "suits" "I") (List.mem_cons_of_mem _ mw_156)
  have q3 := hts (.fieldLink RX6 13 "PatienceryModel" "ranks" "I") (List.mem_cons_of_mem _ mw_157)
  have q4 := hts (.fieldLink RX6 16 "PatienceryModel" "columns" "I") (List.mem_cons_of_mem _ mw_158)
  have q5 := hts (.fieldLink RX6 19 "PatienceryModel" "cells" "I") (List.mem_cons_of_mem _ mw_159)
  have q6 := hts (.fieldLink RX6 22 "PatienceryModel" "build" "I") (List.mem_cons_of_mem _ mw_160)
  have q7 := hts (.fieldLink RX6 86 "PatienceryModel" "empty" "I") (List.mem_cons_of_mem _ mw_180)
  have q8 := hts (.fieldLink RX6 89 "PatienceryModel" "stocked" "I") (List.mem_cons_of_mem _ mw_181)
  have q9 := hts (.fieldLink RX6 92 "PatienceryModel" "again" "I") (List.mem_cons_of_mem _ mw_182)
  have q10 := hts (.fieldLink RX6 95 "PatienceryModel" "hides" "Z") (List.mem_cons_of_mem _ mw_183)
  have B100 : ∀ (I_0 : Nat → Nat → Int32) (s1 : Int32) (s2 : Int32) (H : Heap) (locs : List Loc) (ls : Array Slot), HS D A H0 [(h_0, oX6 h_0_of h_0_kept h_0_column h_0_size h_0_hidden h_0_cell h_0_home h_0_waste h_0_stock h_0_past h_0_start h_0_known h_0_sorted h_0_row h_0_best I_0), (h_0_of, eI cI 9 (I_0 1)), (h_0_kept, eI cI 9 (I_0 2)), (h_0_column, eJ cJ 5 (L_0 0)), (h_0_size, eI cI 5 (I_0 3)), (h_0_hidden, eI cI 5 (I_0 4)), (h_0_cell, eI cI 2 (I_0 5)), (h_0_home, eI cI 4 (I_0 6)), (h_0_waste, eI cI 8 (I_0 7)), (h_0_stock, eI cI 8 (I_0 8)), (h_0_past, eJ cJ 1616 (L_0 1)), (h_0_start, eJ cJ 8 (L_0 2)), (h_0_known, eJ cJ 3216 (L_0 3)), (h_0_sorted, eJ cJ 3216 (L_0 4)), (h_0_row, eI cI 16 (I_0 9)), (h_0_best, eJ cJ 8 (L_0 5))] H locs → lv_has ls 1 [] → F_X6_takeRules_b100 L_0  I_0 s1 s2 = some r_I_0 → W p l e ({ frames := 0, cells := 0, slots := 0, locals := 0 } : Room) s m args below meth c H locs 0 0 Q (F0 m 100 ls [.int s2, .int s1, .ref h_0_of]) := by
    intro I_0 s1 s2 H locs ls hS hl hF
    unfold F_X6_takeRules_b100 at hF
    replace hF := wrA_e hF
    obtain ⟨hi2, I_0u1, eI_0u1, hF⟩ := hF
    refine r_iast (w2 := [(h_0, oX6 h_0_of h_0_kept h_0_column h_0_size h_0_hidden h_0_cell h_0_home h_0_waste h_0_stock h_0_past h_0_start h_0_known h_0_sorted h_0_row h_0_best I_0u1), (h_0_of, eI cI 9 (I_0u1 1)), (h_0_kept, eI cI 9 (I_0u1 2)), (h_0_column, eJ cJ 5 (L_0 0)), (h_0_size, eI cI 5 (I_0u1 3)), (h_0_hidden, eI cI 5 (I_0u1 4)), (h_0_cell, eI cI 2 (I_0u1 5)), (h_0_home, eI cI 4 (I_0u1 6)), (h_0_waste, eI cI 8 (I_0u1 7)), (h_0_stock, eI cI 8 (I_0u1 8)), (h_0_past, eJ cJ 1616 (L_0 1)), (h_0_start, eJ cJ 8 (L_0 2)), (h_0_known, eJ cJ 3216 (L_0 3)), (h_0_sorted, eJ cJ 3216 (L_0 4)), (h_0_row, eI cI 16 (I_0u1 9)), (h_0_best, eJ cJ 8 (L_0 5))]) hx hb hK hS 1 rfl rfl hi2 dX6_takeRules_100 (by rw [eI_0u1]; rfl) (fun H locs hS => ?_)
    have e9_0 := Option.some.inj hF
    subst e9_0
    exact kret _ _ _ _ hS dX6_takeRules_101
  unfold F_X6_takeRules at hF
  refine lv_aload_n hx hb dX6_takeRules_0 rfl (lv_at hl 0 rfl) ?_
  refine r_get hx hb hts inX6 hown hK hS 0 10 rfl rfl (by decide) q0 rfl dX6_takeRules_1 ?_
  refine lv_iconst (v := (nI 0)) hx hb dX6_takeRules_4 (by decide) ?_
  refine lv_aload_n hx hb dX6_takeRules_5 rfl (lv_at hl 0 rfl) ?_
  refine r_get hx hb hts inX6 hown hK hS 0 1 rfl rfl (by decide) q2 rfl dX6_takeRules_6 ?_
  replace hF := wrA_e hF
  obtain ⟨hi4, I_0u3, eI_0u3, hF⟩ := hF
  refine r_iast (w2 := [(h_0, oX6 h_0_of h_0_kept h_0_column h_0_size h_0_hidden h_0_cell h_0_home h_0_waste h_0_stock h_0_past h_0_start h_0_known h_0_sorted h_0_row h_0_best I_0u3), (h_0_of, eI cI 9 (I_0u3 1)), (h_0_kept, eI cI 9 (I_0u3 2)), (h_0_column, eJ cJ 5 (L_0 0)), (h_0_size, eI cI 5 (I_0u3 3)), (h_0_hidden, eI cI 5 (I_0u3 4)), (h_0_cell, eI cI 2 (I_0u3 5)), (h_0_home, eI cI 4 (I_0u3 6)), (h_0_waste, eI cI 8 (I_0u3 7)), (h_0_stock, eI cI 8 (I_0u3 8)), (h_0_past, eJ cJ 1616 (L_0 1)), (h_0_start, eJ cJ 8 (L_0 2)), (h_0_known, eJ cJ 3216 (L_0 3)), (h_0_sorted, eJ cJ 3216 (L_0 4)), (h_0_row, eI cI 16 (I_0u3 9)), (h_0_best, eJ cJ 8 (L_0 5))]) hx hb hK hS 1 rfl rfl hi4 dX6_takeRules_9 (by rw [eI_0u3]; rfl) (fun H locs hS => ?_)
  refine lv_aload_n hx hb dX6_takeRules_10 rfl (lv_at hl 0 rfl) ?_
  refine r_get hx hb hts inX6 hown hK hS 0 10 rfl rfl (by decide) q0 rfl dX6_takeRules_11 ?_
  refine lv_iconst (v := (nI 1)) hx hb dX6_takeRules_14 (by decide) ?_
  refine lv_aload_n hx hb dX6_takeRules_15 rfl (lv_at hl 0 rfl) ?_
  refine r_get hx hb hts inX6 hown hK hS 0 2 rfl rfl (by decide) q3 rfl dX6_takeRules_16 ?_
  replace hF := wrA_e hF
  obtain ⟨hi6, I_0u5, eI_0u5, hF⟩ := hF
  refine r_iast (w2 := [(h_0, oX6 h_0_of h_0_kept h_0_column h_0_size h_0_hidden h_0_cell h_0_home h_0_waste h_0_stock h_0_past h_0_start h_0_known h_0_sorted h_0_row h_0_best I_0u5), (h_0_of, eI cI 9 (I_0u5 1)), (h_0_kept, eI cI 9 (I_0u5 2)), (h_0_column, eJ cJ 5 (L_0 0)), (h_0_size, eI cI 5 (I_0u5 3)), (h_0_hidden, eI cI 5 (I_0u5 4)), (h_0_cell, eI cI 2 (I_0u5 5)), (h_0_home, eI cI 4 (I_0u5 6)), (h_0_waste, eI cI 8 (I_0u5 7)), (h_0_stock, eI cI 8 (I_0u5 8)), (h_0_past, eJ cJ 1616 (L_0 1)), (h_0_start, eJ cJ 8 (L_0 2)), (h_0_known, eJ cJ 3216 (L_0 3)), (h_0_sorted, eJ cJ 3216 (L_0 4)), (h_0_row, eI cI 16 (I_0u5 9)), (h_0_best, eJ cJ 8 (L_0 5))]) hx hb hK hS 1 rfl rfl hi6 dX6_takeRules_19 (by rw [eI_0u5]; rfl) (fun H locs hS => ?_)
  refine lv_aload_n hx hb dX6_takeRules_20 rfl (lv_at hl 0 rfl) ?_
  refine r_get hx hb hts inX6 hown hK hS 0 10 rfl rfl (by decide) q0 rfl dX6_takeRules_21 ?_
  refine lv_iconst (v := (nI 2)) hx hb dX6_takeRules_24 (by decide) ?_
  refine lv_aload_n hx hb dX6_takeRules_25 rfl (lv_at hl 0 rfl) ?_
  refine r_get hx hb hts inX6 hown hK hS 0 3 rfl rfl (by decide) q4 rfl dX6_takeRules_26 ?_
  replace hF := wrA_e hF
  obtain ⟨hi8, I_0u7, eI_0u7, hF⟩ := hF
  refine r_iast (w2 := [(h_0, oX6 h_0_of h_0_kept h_0_column h_0_size h_0_hidden h_0_cell h_0_home h_0_waste h_0_stock h_0_past h_0_start h_0_known h_0_sorted h_0_row h_0_best I_0u7), (h_0_of, eI cI 9 (I_0u7 1)), (h_0_kept, eI cI 9 (I_0u7 2)), (h_0_column, eJ cJ 5 (L_0 0)), (h_0_size, eI cI 5 (I_0u7 3)), (h_0_hidden, eI cI 5 (I_0u7 4)), (h_0_cell, eI cI 2 (I_0u7 5)), (h_0_home, eI cI 4 (I_0u7 6)), (h_0_waste, eI cI 8 (I_0u7 7)), (h_0_stock, eI cI 8 (I_0u7 8)), (h_0_past, eJ cJ 1616 (L_0 1)), (h_0_start, eJ cJ 8 (L_0 2)), (h_0_known, eJ cJ 3216 (L_0 3)), (h_0_sorted, eJ cJ 3216 (L_0 4)), (h_0_row, eI cI 16 (I_0u7 9)), (h_0_best, eJ cJ 8 (L_0 5))]) hx hb hK hS 1 rfl rfl hi8 dX6_takeRules_29 (by rw [eI_0u7]; rfl) (fun H locs hS => ?_)
  refine lv_aload_n hx hb dX6_takeRules_30 rfl (lv_at hl 0 rfl) ?_
  refine r_get hx hb hts inX6 hown hK hS 0 10 rfl rfl (by decide) q0 rfl dX6_takeRules_31 ?_
  refine lv_iconst (v := (nI 3)) hx hb dX6_takeRules_34 (by decide) ?_
  refine lv_aload_n hx hb dX6_takeRules_35 rfl (lv_at hl 0 rfl) ?_
  refine r_get hx hb hts inX6 hown hK hS 0 4 rfl rfl (by decide) q5 rfl dX6_takeRules_36 ?_
  replace hF := wrA_e hF
  obtain ⟨hi10, I_0u9, eI_0u9, hF⟩ := hF
  refine r_iast (w2 := [(h_0, oX6 h_0_of h_0_kept h_0_column h_0_size h_0_hidden h_0_cell h_0_home h_0_waste h_0_stock h_0_past h_0_start h_0_known h_0_sorted h_0_row h_0_best I_0u9), (h_0_of, eI cI 9 (I_0u9 1)), (h_0_kept, eI cI 9 (I_0u9 2)), (h_0_column, eJ cJ 5 (L_0 0)), (h_0_size, eI cI 5 (I_0u9 3)), (h_0_hidden, eI cI 5 (I_0u9 4)), (h_0_cell, eI cI 2 (I_0u9 5)), (h_0_home, eI cI 4 (I_0u9 6)), (h_0_waste, eI cI 8 (I_0u9 7)), (h_0_stock, eI cI 8 (I_0u9 8)), (h_0_past, eJ cJ 1616 (L_0 1)), (h_0_start, eJ cJ 8 (L_0 2)), (h_0_known, eJ cJ 3216 (L_0 3)), (h_0_sorted, eJ cJ 3216 (L_0 4)), (h_0_row, eI cI 16 (I_0u9 9)), (h_0_best, eJ cJ 8 (L_0 5))]) hx hb hK hS 1 rfl rfl hi10 dX6_takeRules_39 (by rw [eI_0u9]; rfl) (fun H locs hS => ?_)
  refine lv_aload_n hx hb dX6_takeRules_40 rfl (lv_at hl 0 rfl) ?_
  refine r_get hx hb hts inX6 hown hK hS 0 10 rfl rfl (by decide) q0 rfl dX6_takeRules_41 ?_
  refine lv_iconst (v := (nI 4)) hx hb dX6_takeRules_44 (by decide) ?_
  refine lv_aload_n hx hb dX6_takeRules_45 rfl (lv_at hl 0 rfl) ?_
  refine r_get hx hb hts inX6 hown hK hS 0 5 rfl rfl (by decide) q6 rfl dX6_takeRules_46 ?_
  replace hF := wrA_e hF
  obtain ⟨hi12, I_0u11, eI_0u11, hF⟩ := hF
  refine r_iast (w2 := [(h_0, oX6 h_0_of h_0_kept h_0_column h_0_size h_0_hidden h_0_cell h_0_home h_0_waste h_0_stock h_0_past h_0_start h_0_known h_0_sorted h_0_row h_0_best I_0u11), (h_0_of, eI cI 9 (I_0u11 1)), (h_0_kept, eI cI 9 (I_0u11 2)), (h_0_column, eJ cJ 5 (L_0 0)), (h_0_size, eI cI 5 (I_0u11 3)), (h_0_hidden, eI cI 5 (I_0u11 4)), (h_0_cell, eI cI 2 (I_0u11 5)), (h_0_home, eI cI 4 (I_0u11 6)), (h_0_waste, eI cI 8 (I_0u11 7)), (h_0_stock, eI cI 8 (I_0u11 8)), (h_0_past, eJ cJ 1616 (L_0 1)), (h_0_start, eJ cJ 8 (L_0 2)), (h_0_known, eJ cJ 3216 (L_0 3)), (h_0_sorted, eJ cJ 3216 (L_0 4)), (h_0_row, eI cI 16 (I_0u11 9)), (h_0_best, eJ cJ 8 (L_0 5))]) hx hb hK hS 1 rfl rfl hi12 dX6_takeRules_49 (by rw [eI_0u11]; rfl) (fun H locs hS => ?_)
  refine lv_aload_n hx hb dX6_takeRules_50 rfl (lv_at hl 0 rfl) ?_
  refine r_get hx hb hts inX6 hown hK hS 0 10 rfl rfl (by decide) q0 rfl dX6_takeRules_51 ?_
  refine lv_iconst (v := (nI 5)) hx hb dX6_takeRules_54 (by decide) ?_
  refine lv_aload_n hx hb dX6_takeRules_55 rfl (lv_at hl 0 rfl) ?_
  refine r_get hx hb hts inX6 hown hK hS 0 6 rfl rfl (by decide) q7 rfl dX6_takeRules_56 ?_
  replace hF := wrA_e hF
  obtain ⟨hi14, I_0u13, eI_0u13, hF⟩ := hF
  refine r_iast (w2 := [(h_0, oX6 h_0_of h_0_kept h_0_column h_0_size h_0_hidden h_0_cell h_0_home h_0_waste h_0_stock h_0_past h_0_start h_0_known h_0_sorted h_0_row h_0_best I_0u13), (h_0_of, eI cI 9 (I_0u13 1)), (h_0_kept, eI cI 9 (I_0u13 2)), (h_0_column, eJ cJ 5 (L_0 0)), (h_0_size, eI cI 5 (I_0u13 3)), (h_0_hidden, eI cI 5 (I_0u13 4)), (h_0_cell, eI cI 2 (I_0u13 5)), (h_0_home, eI cI 4 (I_0u13 6)), (h_0_waste, eI cI 8 (I_0u13 7)), (h_0_stock, eI cI 8 (I_0u13 8)), (h_0_past, eJ cJ 1616 (L_0 1)), (h_0_start, eJ cJ 8 (L_0 2)), (h_0_known, eJ cJ 3216 (L_0 3)), (h_0_sorted, eJ cJ 3216 (L_0 4)), (h_0_row, eI cI 16 (I_0u13 9)), (h_0_best, eJ cJ 8 (L_0 5))]) hx hb hK hS 1 rfl rfl hi14 dX6_takeRules_59 (by rw [eI_0u13]; rfl) (fun H locs hS => ?_)
  refine lv_aload_n hx hb dX6_takeRules_60 rfl (lv_at hl 0 rfl) ?_
  refine r_get hx hb hts inX6 hown hK hS 0 10 rfl rfl (by decide) q0 rfl dX6_takeRules_61 ?_
  refine lv_bipush (v := (nI 6)) hx hb dX6_takeRules_64 (by decide) ?_
  refine lv_aload_n hx hb dX6_takeRules_66 rfl (lv_at hl 0 rfl) ?_
  refine r_get hx hb hts inX6 hown hK hS 0 7 rfl rfl (by decide) q8 rfl dX6_takeRules_67 ?_
  replace hF := wrA_e hF
  obtain ⟨hi16, I_0u15, eI_0u15, hF⟩ := hF
  refine r_iast (w2 := [(h_0, oX6 h_0_of h_0_kept h_0_column h_0_size h_0_hidden h_0_cell h_0_home h_0_waste h_0_stock h_0_past h_0_start h_0_known h_0_sorted h_0_row h_0_best I_0u15), (h_0_of, eI cI 9 (I_0u15 1)), (h_0_kept, eI cI 9 (I_0u15 2)), (h_0_column, eJ cJ 5 (L_0 0)), (h_0_size, eI cI 5 (I_0u15 3)), (h_0_hidden, eI cI 5 (I_0u15 4)), (h_0_cell, eI cI 2 (I_0u15 5)), (h_0_home, eI cI 4 (I_0u15 6)), (h_0_waste, eI cI 8 (I_0u15 7)), (h_0_stock, eI cI 8 (I_0u15 8)), (h_0_past, eJ cJ 1616 (L_0 1)), (h_0_start, eJ cJ 8 (L_0 2)), (h_0_known, eJ cJ 3216 (L_0 3)), (h_0_sorted, eJ cJ 3216 (L_0 4)), (h_0_row, eI cI 16 (I_0u15 9)), (h_0_best, eJ cJ 8 (L_0 5))]) hx hb hK hS 1 rfl rfl hi16 dX6_takeRules_70 (by rw [eI_0u15]; rfl) (fun H locs hS => ?_)
  refine lv_aload_n hx hb dX6_takeRules_71 rfl (lv_at hl 0 rfl) ?_
  refine r_get hx hb hts inX6 hown hK hS 0 10 rfl rfl (by decide) q0 rfl dX6_takeRules_72 ?_
  refine lv_bipush (v := (nI 7)) hx hb dX6_takeRules_75 (by decide) ?_
  refine lv_aload_n hx hb dX6_takeRules_77 rfl (lv_at hl 0 rfl) ?_
  refine r_get hx hb hts inX6 hown hK hS 0 8 rfl rfl (by decide) q9 rfl dX6_takeRules_78 ?_
  replace hF := wrA_e hF
  obtain ⟨hi18, I_0u17, eI_0u17, hF⟩ := hF
  refine r_iast (w2 := [(h_0, oX6 h_0_of h_0_kept h_0_column h_0_size h_0_hidden h_0_cell h_0_home h_0_waste h_0_stock h_0_past h_0_start h_0_known h_0_sorted h_0_row h_0_best I_0u17), (h_0_of, eI cI 9 (I_0u17 1)), (h_0_kept, eI cI 9 (I_0u17 2)), (h_0_column, eJ cJ 5 (L_0 0)), (h_0_size, eI cI 5 (I_0u17 3)), (h_0_hidden, eI cI 5 (I_0u17 4)), (h_0_cell, eI cI 2 (I_0u17 5)), (h_0_home, eI cI 4 (I_0u17 6)), (h_0_waste, eI cI 8 (I_0u17 7)), (h_0_stock, eI cI 8 (I_0u17 8)), (h_0_past, eJ cJ 1616 (L_0 1)), (h_0_start, eJ cJ 8 (L_0 2)), (h_0_known, eJ cJ 3216 (L_0 3)), (h_0_sorted, eJ cJ 3216 (L_0 4)), (h_0_row, eI cI 16 (I_0u17 9)), (h_0_best, eJ cJ 8 (L_0 5))]) hx hb hK hS 1 rfl rfl hi18 dX6_takeRules_81 (by rw [eI_0u17]; rfl) (fun H locs hS => ?_)
  refine lv_aload_n hx hb dX6_takeRules_82 rfl (lv_at hl 0 rfl) ?_
  refine r_get hx hb hts inX6 hown hK hS 0 10 rfl rfl (by decide) q0 rfl dX6_takeRules_83 ?_
  refine lv_bipush (v := (nI 8)) hx hb dX6_takeRules_86 (by decide) ?_
  refine lv_aload_n hx hb dX6_takeRules_88 rfl (lv_at hl 0 rfl) ?_
  refine r_get hx hb hts inX6 hown hK hS 0 9 rfl rfl (by decide) q10 rfl dX6_takeRules_89 ?_
  refine lv_if_eq (tgt := 99) hx hb dX6_takeRules_92 (by decide) (fun c_19 => ?_) (fun c_19 => ?_)
  · replace hF := ifp hF c_19
    refine lv_iconst (v := (nI 0)) hx hb dX6_takeRules_99 (by decide) ?_
    exact B100 I_0u17 (nI 8) (nI 0) _ _ _ hS (lv_sub hl [] rfl) hF
  · replace hF := ifn hF c_19
    refine lv_iconst (v := (nI 1)) hx hb dX6_takeRules_95 (by decide) ?_
    refine lv_goto (tgt := 100) hx hb dX6_takeRules_96 (by decide) ?_
    exact B100 I_0u17 (nI 8) (nI 1) _ _ _ hS (lv_sub hl [] rfl) hF
set_option maxHeartbeats 4000000 in
set_option maxRecDepth 100000 in
theorem c_X6_deck (l : Launch) (D : va_G) (cI cJ : ClassId) (h_0 h_0_of h_0_kept h_0_column h_0_size h_0_hidden h_0_cell h_0_home h_0_waste h_0_stock h_0_past h_0_start h_0_known h_0_sorted h_0_row h_0_best : Nat) (L_0 : Nat → Nat → Int64) (I_0 : Nat → Nat → Int32) (v1 : Int32) (v2 : Int32) (rv : Int32) (r_I_0 : Nat → Nat → Int32) (hF : F_X6_deck L_0 I_0 v1 v2 = some (rv, r_I_0)) : CtI l D [(cI, .int), (cJ, .long)] yX6_deck wtX6_deck ({ frames := 1, cells := 0, slots := 0, locals := 22 } : Room) [.ref h_0, .int v1, .int v2] [(h_0, oX6 h_0_of h_0_kept h_0_column h_0_size h_0_hidden h_0_cell h_0_home h_0_waste h_0_stock h_0_past h_0_start h_0_known h_0_sorted h_0_row h_0_best I_0), (h_0_of, eI cI 9 (I_0 1)), (h_0_kept, eI cI 9 (I_0 2)), (h_0_column, eJ cJ 5 (L_0 0)), (h_0_size, eI cI 5 (I_0 3)), (h_0_hidden, eI cI 5 (I_0 4)), (h_0_cell, eI cI 2 (I_0 5)), (h_0_home, eI cI 4 (I_0 6)), (h_0_waste, eI cI 8 (I_0 7)), (h_0_stock, eI cI 8 (I_0 8)), (h_0_past, eJ cJ 1616 (L_0 1)), (h_0_start, eJ cJ 8 (L_0 2)), (h_0_known, eJ cJ 3216 (L_0 3)), (h_0_sorted, eJ cJ 3216 (L_0 4)), (h_0_row, eI cI 16 (I_0 9)), (h_0_best, eJ cJ 8 (L_0 5))] [(h_0, oX6 h_0_of h_0_kept h_0_column h_0_size h_0_hidden h_0_cell h_0_home h_0_waste h_0_stock h_0_past h_0_start h_0_known h_0_sorted h_0_row h_0_best r_I_0), (h_0_of, eI cI 9 (r_I_0 1)), (h_0_kept, eI cI 9 (r_I_0 2)), (h_0_column, eJ cJ 5 (L_0 0)), (h_0_size, eI cI 5 (r_I_0 3)), (h_0_hidden, eI cI 5 (r_I_0 4)), (h_0_cell, eI cI 2 (r_I_0 5)), (h_0_home, eI cI 4 (r_I_0 6)), (h_0_waste, eI cI 8 (r_I_0 7)), (h_0_stock, eI cI 8 (r_I_0 8)), (h_0_past, eJ cJ 1616 (L_0 1)), (h_0_start, eJ cJ 8 (L_0 2)), (h_0_known, eJ cJ 3216 (L_0 3)), (h_0_sorted, eJ cJ 3216 (L_0 4)), (h_0_row, eI cI 16 (r_I_0 9)), (h_0_best, eJ cJ 8 (L_0 5))] rv := by
  refine CtI.of (cc := cX6_deck) (maxL := 4) (by decide) rfl (Nat.le_of_ble_eq_true rfl) ?_
  intro p e s m args below meth c A H0 Q ls X hS hl kret
  have hCF := X.1
  obtain ⟨⟨hx, hb, hml, hown, hts⟩, hK, hA⟩ := X
  have hl : lv_has ls 4 [(0, .ref h_0), (1, .int v1), (2, .int v2)] := hl
  have q0 := hts (.fieldLink RX6 7 "PatienceryModel" "suits" "I") (List.mem_cons_of_mem _ mw_156)
  have inX6 : ∀ w ∈ u_ws RX6 TX6 32, w ∈ wtX6_deck := fun w h => List.mem_cons_of_mem _ (inlX6 w h)
  have q2 := hts (.fieldLink RX6 13 "PatienceryModel" "ranks" "I") (List.mem_cons_of_mem _ mw_157)
  have q3 := hts (.fieldLink RX6 89 "PatienceryModel" "stocked" "I") (List.mem_cons_of_mem _ mw_181)
  have B57 : ∀ (I_0 : Nat → Nat → Int32) (v1 : Int32) (v2 : Int32) (s1 : Int32) (H : Heap) (locs : List Loc) (ls : Array Slot), HS D A H0 [(h_0, oX6 h_0_of h_0_kept h_0_column h_0_size h_0_hidden h_0_cell h_0_home h_0_waste h_0_stock h_0_past h_0_start h_0_known h_0_sorted h_0_row h_0_best I_0), (h_0_of, eI cI 9 (I_0 1)), (h_0_kept, eI cI 9 (I_0 2)), (h_0_column, eJ cJ 5 (L_0 0)), (h_0_size, eI cI 5 (I_0 3)), (h_0_hidden, eI cI 5 (I_0 4)), (h_0_cell, eI cI 2 (I_0 5)), (h_0_home, eI cI 4 (I_0 6)), (h_0_waste, eI cI 8 (I_0 7)), (h_0_stock, eI cI 8 (I_0 8)), (h_0_past, eJ cJ 1616 (L_0 1)), (h_0_start, eJ cJ 8 (L_0 2)), (h_0_known, eJ cJ 3216 (L_0 3)), (h_0_sorted, eJ cJ 3216 (L_0 4)), (h_0_row, eI cI 16 (I_0 9)), (h_0_best, eJ cJ 8 (L_0 5))] H locs → lv_has ls 4 [(0, .ref h_0), (1, .int v1), (2, .int v2)] → F_X6_deck_b57 L_0  I_0 v1 v2 s1 = some (rv, r_I_0) → W p l e ({ frames := 1, cells := 0, slots := 0, locals := 22 } : Room) s m args below meth c H locs 0 0 Q (F0 m 57 ls [.int s1, .ref h_0]) := by
    intro I_0 v1 v2 s1 H locs ls hS hl hF
    unfold F_X6_deck_b57 at hF
    replace hF := cal2_e hF
    obtain ⟨x1, I_0u2, hc3, hF⟩ := hF
    refine kV_i (As := [.int s1]) (rest := []) (wr := []) (w2 := [(h_0, oX6 h_0_of h_0_kept h_0_column h_0_size h_0_hidden h_0_cell h_0_home h_0_waste h_0_stock h_0_past h_0_start h_0_known h_0_sorted h_0_row h_0_best I_0u2), (h_0_of, eI cI 9 (I_0u2 1)), (h_0_kept, eI cI 9 (I_0u2 2)), (h_0_column, eJ cJ 5 (L_0 0)), (h_0_size, eI cI 5 (I_0u2 3)), (h_0_hidden, eI cI 5 (I_0u2 4)), (h_0_cell, eI cI 2 (I_0u2 5)), (h_0_home, eI cI 4 (I_0u2 6)), (h_0_waste, eI cI 8 (I_0u2 7)), (h_0_stock, eI cI 8 (I_0u2 8)), (h_0_past, eJ cJ 1616 (L_0 1)), (h_0_start, eJ cJ 8 (L_0 2)), (h_0_known, eJ cJ 3216 (L_0 3)), (h_0_sorted, eJ cJ 3216 (L_0 4)), (h_0_row, eI cI 16 (I_0u2 9)), (h_0_best, eJ cJ 8 (L_0 5))]) hCF hK (c_X6_goesWell l D cI cJ h_0 h_0_of h_0_kept h_0_column h_0_size h_0_hidden h_0_cell h_0_home h_0_waste h_0_stock h_0_past h_0_start h_0_known h_0_sorted h_0_row h_0_best L_0 I_0 s1 x1 I_0u2 hc3) (cwV 1 hts (TBL_V mw_237 mw_238 mw_239 mw_5 mw_240) rfl rfl rfl pmX6_goesWell ⟨Nat.le_of_ble_eq_true rfl, Nat.le_of_ble_eq_true rfl⟩) hS hA [0, 1, 2, 3, 4, 5, 6, 7, 8, 9, 10, 11, 12, 13, 14, 15] [] rfl rfl rfl rfl (by decide) rfl rfl rfl hl.1 rfl (Nat.le_of_ble_eq_true rfl) ⟨Nat.zero_le _, Nat.zero_le _⟩ dX6_deck_57 rfl (fun H locs hS => ?_)
    refine lv_if_ne (tgt := 65) hx hb dX6_deck_60 (by decide) (fun c_4 => ?_) (fun c_4 => ?_)
    · replace hF := ifn hF c_4
      refine lv_aload_n hx hb dX6_deck_65 rfl (lv_at hl 0 rfl) ?_
      refine lv_iload_n hx hb dX6_deck_66 rfl (lv_at hl 1 rfl) ?_
      replace hF := bnd_e hF
      obtain ⟨I_0u5, eI_0u5, hF⟩ := hF
      refine r_put (w2 := [(h_0, oX6 h_0_of h_0_kept h_0_column h_0_size h_0_hidden h_0_cell h_0_home h_0_waste h_0_stock h_0_past h_0_start h_0_known h_0_sorted h_0_row h_0_best I_0u5), (h_0_of, eI cI 9 (I_0u5 1)), (h_0_kept, eI cI 9 (I_0u5 2)), (h_0_column, eJ cJ 5 (L_0 0)), (h_0_size, eI cI 5 (I_0u5 3)), (h_0_hidden, eI cI 5 (I_0u5 4)), (h_0_cell, eI cI 2 (I_0u5 5)), (h_0_home, eI cI 4 (I_0u5 6)), (h_0_waste, eI cI 8 (I_0u5 7)), (h_0_stock, eI cI 8 (I_0u5 8)), (h_0_past, eJ cJ 1616 (L_0 1)), (h_0_start, eJ cJ 8 (L_0 2)), (h_0_known, eJ cJ 3216 (L_0 3)), (h_0_sorted, eJ cJ 3216 (L_0 4)), (h_0_row, eI cI 16 (I_0u5 9)), (h_0_best, eJ cJ 8 (L_0 5))]) hx hb hts inX6 tyX6 tyX6_ok nmX6 hown hK hS 0 1 rfl rfl (by decide) q0 rfl rfl rfl (Nat.le_of_ble_eq_true rfl) dX6_deck_67 (by rw [eI_0u5]; rfl) (fun H locs hS => ?_)
      refine lv_aload_n hx hb dX6_deck_70 rfl (lv_at hl 0 rfl) ?_
      refine lv_iload_n hx hb dX6_deck_71 rfl (lv_at hl 2 rfl) ?_
      replace hF := bnd_e hF
      obtain ⟨I_0u6, eI_0u6, hF⟩ := hF
      refine r_put (w2 := [(h_0, oX6 h_0_of h_0_kept h_0_column h_0_size h_0_hidden h_0_cell h_0_home h_0_waste h_0_stock h_0_past h_0_start h_0_known h_0_sorted h_0_row h_0_best I_0u6), (h_0_of, eI cI 9 (I_0u6 1)), (h_0_kept, eI cI 9 (I_0u6 2)), (h_0_column, eJ cJ 5 (L_0 0)), (h_0_size, eI cI 5 (I_0u6 3)), (h_0_hidden, eI cI 5 (I_0u6 4)), (h_0_cell, eI cI 2 (I_0u6 5)), (h_0_home, eI cI 4 (I_0u6 6)), (h_0_waste, eI cI 8 (I_0u6 7)), (h_0_stock, eI cI 8 (I_0u6 8)), (h_0_past, eJ cJ 1616 (L_0 1)), (h_0_start, eJ cJ 8 (L_0 2)), (h_0_known, eJ cJ 3216 (L_0 3)), (h_0_sorted, eJ cJ 3216 (L_0 4)), (h_0_row, eI cI 16 (I_0u6 9)), (h_0_best, eJ cJ 8 (L_0 5))]) hx hb hts inX6 tyX6 tyX6_ok nmX6 hown hK hS 0 2 rfl rfl (by decide) q2 rfl rfl rfl (Nat.le_of_ble_eq_true rfl) dX6_deck_72 (by rw [eI_0u6]; rfl) (fun H locs hS => ?_)
      refine lv_iload_n hx hb dX6_deck_75 rfl (lv_at hl 1 rfl) ?_
      refine lv_iload_n hx hb dX6_deck_76 rfl (lv_at hl 2 rfl) ?_
      refine lv_imul hx hb dX6_deck_77 ?_
      have e9_0 := Option.some.inj hF
      obtain ⟨f9_0, e9_1⟩ := Prod.mk.inj e9_0
      subst f9_0
      subst e9_1
      exact kret _ _ _ _ hS dX6_deck_78
    · replace hF := ifp hF c_4
      refine lv_iconst (v := (nI 0)) hx hb dX6_deck_63 (by decide) ?_
      have e9_0 := Option.some.inj hF
      obtain ⟨f9_0, e9_1⟩ := Prod.mk.inj e9_0
      subst f9_0
      subst e9_1
      exact kret _ _ _ _ hS dX6_deck_64
  have B46 : ∀ (I_0 : Nat → Nat → Int32) (v1 : Int32) (v2 : Int32) (s0 : Int32) (H : Heap) (locs : List Loc) (ls : Array Slot), HS D A H0 [(h_0, oX6 h_0_of h_0_kept h_0_column h_0_size h_0_hidden h_0_cell h_0_home h_0_waste h_0_stock h_0_past h_0_start h_0_known h_0_sorted h_0_row h_0_best I_0), (h_0_of, eI cI 9 (I_0 1)), (h_0_kept, eI cI 9 (I_0 2)), (h_0_column, eJ cJ 5 (L_0 0)), (h_0_size, eI cI 5 (I_0 3)), (h_0_hidden, eI cI 5 (I_0 4)), (h_0_cell, eI cI 2 (I_0 5)), (h_0_home, eI cI 4 (I_0 6)), (h_0_waste, eI cI 8 (I_0 7)), (h_0_stock, eI cI 8 (I_0 8)), (h_0_past, eJ cJ 1616 (L_0 1)), (h_0_start, eJ cJ 8 (L_0 2)), (h_0_known, eJ cJ 3216 (L_0 3)), (h_0_sorted, eJ cJ 3216 (L_0 4)), (h_0_row, eI cI 16 (I_0 9)), (h_0_best, eJ cJ 8 (L_0 5))] H locs → lv_has ls 4 [(0, .ref h_0), (1, .int v1), (2, .int v2)] → F_X6_deck_b46 L_0  I_0 v1 v2 s0 = some (rv, r_I_0) → W p l e ({ frames := 1, cells := 0, slots := 0, locals := 22 } : Room) s m args below meth c H locs 0 0 Q (F0 m 46 ls [.int s0]) := by
    intro I_0 v1 v2 s0 H locs ls hS hl hF
    unfold F_X6_deck_b46 at hF
    refine lv_istore_n (lv' := [(3, .int s0), (0, .ref h_0), (1, .int v1), (2, .int v2)]) hx hb dX6_deck_46 rfl hl (by decide) rfl (fun ls hl => ?_)
    refine lv_aload_n hx hb dX6_deck_47 rfl (lv_at hl 1 rfl) ?_
    refine lv_iload_n hx hb dX6_deck_48 rfl (lv_at hl 0 rfl) ?_
    refine lv_if_eq (tgt := 56) hx hb dX6_deck_49 (by decide) (fun c_7 => ?_) (fun c_7 => ?_)
    · replace hF := ifp hF c_7
      refine lv_iconst (v := (nI 1)) hx hb dX6_deck_56 (by decide) ?_
      exact B57 I_0 v1 v2 (nI 1) _ _ _ hS (lv_sub hl [1, 2, 3] rfl) hF
    · replace hF := ifn hF c_7
      refine lv_iconst (v := (nI 0)) hx hb dX6_deck_52 (by decide) ?_
      refine lv_goto (tgt := 57) hx hb dX6_deck_53 (by decide) ?_
      exact B57 I_0 v1 v2 (nI 0) _ _ _ hS (lv_sub hl [1, 2, 3] rfl) hF
  unfold F_X6_deck at hF
  refine lv_iload_n hx hb dX6_deck_0 rfl (lv_at hl 1 rfl) ?_
  refine lv_iconst (v := (nI 1)) hx hb dX6_deck_1 (by decide) ?_
  refine lv_iconst (v := (nI 4)) hx hb dX6_deck_2 (by decide) ?_
  replace hF := cal1_e hF
  obtain ⟨x8, hc9, hF⟩ := hF
  refine kS_i (As := [.int v1, .int (nI 1), .int (nI 4)]) (rest := []) (wr := [(h_0, oX6 h_0_of h_0_kept h_0_column h_0_size h_0_hidden h_0_cell h_0_home h_0_waste h_0_stock h_0_past h_0_start h_0_known h_0_sorted h_0_row h_0_best I_0), (h_0_of, eI cI 9 (I_0 1)), (h_0_kept, eI cI 9 (I_0 2)), (h_0_column, eJ cJ 5 (L_0 0)), (h_0_size, eI cI 5 (I_0 3)), (h_0_hidden, eI cI 5 (I_0 4)), (h_0_cell, eI cI 2 (I_0 5)), (h_0_home, eI cI 4 (I_0 6)), (h_0_waste, eI cI 8 (I_0 7)), (h_0_stock, eI cI 8 (I_0 8)), (h_0_past, eJ cJ 1616 (L_0 1)), (h_0_start, eJ cJ 8 (L_0 2)), (h_0_known, eJ cJ 3216 (L_0 3)), (h_0_sorted, eJ cJ 3216 (L_0 4)), (h_0_row, eI cI 16 (I_0 9)), (h_0_best, eJ cJ 8 (L_0 5))]) (w2 := [(h_0, oX6 h_0_of h_0_kept h_0_column h_0_size h_0_hidden h_0_cell h_0_home h_0_waste h_0_stock h_0_past h_0_start h_0_known h_0_sorted h_0_row h_0_best I_0), (h_0_of, eI cI 9 (I_0 1)), (h_0_kept, eI cI 9 (I_0 2)), (h_0_column, eJ cJ 5 (L_0 0)), (h_0_size, eI cI 5 (I_0 3)), (h_0_hidden, eI cI 5 (I_0 4)), (h_0_cell, eI cI 2 (I_0 5)), (h_0_home, eI cI 4 (I_0 6)), (h_0_waste, eI cI 8 (I_0 7)), (h_0_stock, eI cI 8 (I_0 8)), (h_0_past, eJ cJ 1616 (L_0 1)), (h_0_start, eJ cJ 8 (L_0 2)), (h_0_known, eJ cJ 3216 (L_0 3)), (h_0_sorted, eJ cJ 3216 (L_0 4)), (h_0_row, eI cI 16 (I_0 9)), (h_0_best, eJ cJ 8 (L_0 5))]) hCF hK (c_X6_in l D cI cJ v1 (nI 1) (nI 4) x8 hc9) (va_cwS 3 hts (TBL_S mw_234 mw_235 mw_5 mw_236) rfl rfl rfl pmX6_in.2 ⟨Nat.le_of_ble_eq_true rfl, Nat.le_of_ble_eq_true rfl⟩) hS hA [] [0, 1, 2, 3, 4, 5, 6, 7, 8, 9, 10, 11, 12, 13, 14, 15] rfl rfl rfl rfl (by decide) rfl hl.1 rfl (Nat.le_of_ble_eq_true rfl) ⟨Nat.zero_le _, Nat.zero_le _⟩ dX6_deck_3 rfl (fun H locs hS => ?_)
  refine lv_if_eq (tgt := 45) hx hb dX6_deck_6 (by decide) (fun c_10 => ?_) (fun c_10 => ?_)
  · replace hF := ifp hF c_10
    refine lv_iconst (v := (nI 0)) hx hb dX6_deck_45 (by decide) ?_
    exact B46 I_0 v1 v2 (nI 0) _ _ _ hS (lv_sub hl [0, 1, 2] rfl) hF
  · replace hF := ifn hF c_10
    refine lv_iload_n hx hb dX6_deck_9 rfl (lv_at hl 2 rfl) ?_
    refine lv_iconst (v := (nI 1)) hx hb dX6_deck_10 (by decide) ?_
    refine lv_bipush (v := (nI 6)) hx hb dX6_deck_11 (by decide) ?_
    replace hF := cal1_e hF
    obtain ⟨x11, hc12, hF⟩ := hF
    refine kS_i (As := [.int v2, .int (nI 1), .int (nI 6)]) (rest := []) (wr := [(h_0, oX6 h_0_of h_0_kept h_0_column h_0_size h_0_hidden h_0_cell h_0_home h_0_waste h_0_stock h_0_past h_0_start h_0_known h_0_sorted h_0_row h_0_best I_0), (h_0_of, eI cI 9 (I_0 1)), (h_0_kept, eI cI 9 (I_0 2)), (h_0_column, eJ cJ 5 (L_0 0)), (h_0_size, eI cI 5 (I_0 3)), (h_0_hidden, eI cI 5 (I_0 4)), (h_0_cell, eI cI 2 (I_0 5)), (h_0_home, eI cI 4 (I_0 6)), (h_0_waste, eI cI 8 (I_0 7)), (h_0_stock, eI cI 8 (I_0 8)), (h_0_past, eJ cJ 1616 (L_0 1)), (h_0_start, eJ cJ 8 (L_0 2)), (h_0_known, eJ cJ 3216 (L_0 3)), (h_0_sorted, eJ cJ 3216 (L_0 4)), (h_0_row, eI cI 16 (I_0 9)), (h_0_best, eJ cJ 8 (L_0 5))]) (w2 := [(h_0, oX6 h_0_of h_0_kept h_0_column h_0_size h_0_hidden h_0_cell h_0_home h_0_waste h_0_stock h_0_past h_0_start h_0_known h_0_sorted h_0_row h_0_best I_0), (h_0_of, eI cI 9 (I_0 1)), (h_0_kept, eI cI 9 (I_0 2)), (h_0_column, eJ cJ 5 (L_0 0)), (h_0_size, eI cI 5 (I_0 3)), (h_0_hidden, eI cI 5 (I_0 4)), (h_0_cell, eI cI 2 (I_0 5)), (h_0_home, eI cI 4 (I_0 6)), (h_0_waste, eI cI 8 (I_0 7)), (h_0_stock, eI cI 8 (I_0 8)), (h_0_past, eJ cJ 1616 (L_0 1)), (h_0_start, eJ cJ 8 (L_0 2)), (h_0_known, eJ cJ 3216 (L_0 3)), (h_0_sorted, eJ cJ 3216 (L_0 4)), (h_0_row, eI cI 16 (I_0 9)), (h_0_best, eJ cJ 8 (L_0 5))]) hCF hK (c_X6_in l D cI cJ v2 (nI 1) (nI 6) x11 hc12) (va_cwS 3 hts (TBL_S mw_234 mw_235 mw_5 mw_236) rfl rfl rfl pmX6_in.2 ⟨Nat.le_of_ble_eq_true rfl, Nat.le_of_ble_eq_true rfl⟩) hS hA [] [0, 1, 2, 3, 4, 5, 6, 7, 8, 9, 10, 11, 12, 13, 14, 15] rfl rfl rfl rfl (by decide) rfl hl.1 rfl (Nat.le_of_ble_eq_true rfl) ⟨Nat.zero_le _, Nat.zero_le _⟩ dX6_deck_13 rfl (fun H locs hS => ?_)
    refine lv_if_eq (tgt := 45) hx hb dX6_deck_16 (by decide) (fun c_13 => ?_) (fun c_13 => ?_)
    · replace hF := ifp hF c_13
      refine lv_iconst (v := (nI 0)) hx hb dX6_deck_45 (by decide) ?_
      exact B46 I_0 v1 v2 (nI 0) _ _ _ hS (lv_sub hl [0, 1, 2] rfl) hF
    · replace hF := ifn hF c_13
      refine lv_iload_n hx hb dX6_deck_19 rfl (lv_at hl 1 rfl) ?_
      refine lv_iload_n hx hb dX6_deck_20 rfl (lv_at hl 2 rfl) ?_
      refine lv_imul hx hb dX6_deck_21 ?_
      refine lv_iconst (v := (nI 2)) hx hb dX6_deck_22 (by decide) ?_
      refine lv_bipush (v := (nI 16)) hx hb dX6_deck_23 (by decide) ?_
      replace hF := cal1_e hF
      obtain ⟨x14, hc15, hF⟩ := hF
      refine kS_i (As := [.int (v1 * v2), .int (nI 2), .int (nI 16)]) (rest := []) (wr := [(h_0, oX6 h_0_of h_0_kept h_0_column h_0_size h_0_hidden h_0_cell h_0_home h_0_waste h_0_stock h_0_past h_0_start h_0_known h_0_sorted h_0_row h_0_best I_0), (h_0_of, eI cI 9 (I_0 1)), (h_0_kept, eI cI 9 (I_0 2)), (h_0_column, eJ cJ 5 (L_0 0)), (h_0_size, eI cI 5 (I_0 3)), (h_0_hidden, eI cI 5 (I_0 4)), (h_0_cell, eI cI 2 (I_0 5)), (h_0_home, eI cI 4 (I_0 6)), (h_0_waste, eI cI 8 (I_0 7)), (h_0_stock, eI cI 8 (I_0 8)), (h_0_past, eJ cJ 1616 (L_0 1)), (h_0_start, eJ cJ 8 (L_0 2)), (h_0_known, eJ cJ 3216 (L_0 3)), (h_0_sorted, eJ cJ 3216 (L_0 4)), (h_0_row, eI cI 16 (I_0 9)), (h_0_best, eJ cJ 8 (L_0 5))]) (w2 := [(h_0, oX6 h_0_of h_0_kept h_0_column h_0_size h_0_hidden h_0_cell h_0_home h_0_waste h_0_stock h_0_past h_0_start h_0_known h_0_sorted h_0_row h_0_best I_0), (h_0_of, eI cI 9 (I_0 1)), (h_0_kept, eI cI 9 (I_0 2)), (h_0_column, eJ cJ 5 (L_0 0)), (h_0_size, eI cI 5 (I_0 3)), (h_0_hidden, eI cI 5 (I_0 4)), (h_0_cell, eI cI 2 (I_0 5)), (h_0_home, eI cI 4 (I_0 6)), (h_0_waste, eI cI 8 (I_0 7)), (h_0_stock, eI cI 8 (I_0 8)), (h_0_past, eJ cJ 1616 (L_0 1)), (h_0_start, eJ cJ 8 (L_0 2)), (h_0_known, eJ cJ 3216 (L_0 3)), (h_0_sorted, eJ cJ 3216 (L_0 4)), (h_0_row, eI cI 16 (I_0 9)), (h_0_best, eJ cJ 8 (L_0 5))]) hCF hK (c_X6_in l D cI cJ (v1 * v2) (nI 2) (nI 16) x14 hc15) (va_cwS 3 hts (TBL_S mw_234 mw_235 mw_5 mw_236) rfl rfl rfl pmX6_in.2 ⟨Nat.le_of_ble_eq_true rfl, Nat.le_of_ble_eq_true rfl⟩) hS hA [] [0, 1, 2, 3, 4, 5, 6, 7, 8, 9, 10, 11, 12, 13, 14, 15] rfl rfl rfl rfl (by decide) rfl hl.1 rfl (Nat.le_of_ble_eq_true rfl) ⟨Nat.zero_le _, Nat.zero_le _⟩ dX6_deck_25 rfl (fun H locs hS => ?_)
      refine lv_if_eq (tgt := 45) hx hb dX6_deck_28 (by decide) (fun c_16 => ?_) (fun c_16 => ?_)
      · replace hF := ifp hF c_16
        refine lv_iconst (v := (nI 0)) hx hb dX6_deck_45 (by decide) ?_
        exact B46 I_0 v1 v2 (nI 0) _ _ _ hS (lv_sub hl [0, 1, 2] rfl) hF
      · replace hF := ifn hF c_16
        refine lv_iload_n hx hb dX6_deck_31 rfl (lv_at hl 1 rfl) ?_
        refine lv_iload_n hx hb dX6_deck_32 rfl (lv_at hl 2 rfl) ?_
        refine lv_imul hx hb dX6_deck_33 ?_
        refine lv_aload_n hx hb dX6_deck_34 rfl (lv_at hl 0 rfl) ?_
        refine r_get hx hb hts inX6 hown hK hS 0 7 rfl rfl (by decide) q3 rfl dX6_deck_35 ?_
        refine lv_icmp_le (tgt := 45) hx hb dX6_deck_38 (by decide) (fun c_17 => ?_) (fun c_17 => ?_)
        · replace hF := ifp hF c_17
          refine lv_iconst (v := (nI 0)) hx hb dX6_deck_45 (by decide) ?_
          exact B46 I_0 v1 v2 (nI 0) _ _ _ hS (lv_sub hl [0, 1, 2] rfl) hF
        · replace hF := ifn hF c_17
          refine lv_iconst (v := (nI 1)) hx hb dX6_deck_41 (by decide) ?_
          refine lv_goto (tgt := 46) hx hb dX6_deck_42 (by decide) ?_
          exact B46 I_0 v1 v2 (nI 1) _ _ _ hS (lv_sub hl [0, 1, 2] rfl) hF
set_option maxHeartbeats 4000000 in
set_option maxRecDepth 100000 in
theorem c_X6_table (l : Launch) (D : va_G) (cI cJ : ClassId) (h_0 h_0_of h_0_kept h_0_column h_0_size h_0_hidden h_0_cell h_0_home h_0_waste h_0_stock h_0_past h_0_start h_0_known h_0_sorted h_0_row h_0_best : Nat) (L_0 : Nat → Nat → Int64) (I_0 : Nat → Nat → Int32) (v1 : Int32) (v2 : Int32) (v3 : Int32) (v4 : Int32) (r_I_0 : Nat → Nat → Int32) (hF : F_X6_table L_0 I_0 v1 v2 v3 v4 = some r_I_0) : CtV l D [(cI, .int), (cJ, .long)] yX6_table wtX6_table ({ frames := 1, cells := 0, slots := 0, locals := 22 } : Room) [.ref h_0, .int v1, .int v2, .int v3, .int v4] [(h_0, oX6 h_0_of h_0_kept h_0_column h_0_size h_0_hidden h_0_cell h_0_home h_0_waste h_0_stock h_0_past h_0_start h_0_known h_0_sorted h_0_row h_0_best I_0), (h_0_of, eI cI 9 (I_0 1)), (h_0_kept, eI cI 9 (I_0 2)), (h_0_column, eJ cJ 5 (L_0 0)), (h_0_size, eI cI 5 (I_0 3)), (h_0_hidden, eI cI 5 (I_0 4)), (h_0_cell, eI cI 2 (I_0 5)), (h_0_home, eI cI 4 (I_0 6)), (h_0_waste, eI cI 8 (I_0 7)), (h_0_stock, eI cI 8 (I_0 8)), (h_0_past, eJ cJ 1616 (L_0 1)), (h_0_start, eJ cJ 8 (L_0 2)), (h_0_known, eJ cJ 3216 (L_0 3)), (h_0_sorted, eJ cJ 3216 (L_0 4)), (h_0_row, eI cI 16 (I_0 9)), (h_0_best, eJ cJ 8 (L_0 5))] [(h_0, oX6 h_0_of h_0_kept h_0_column h_0_size h_0_hidden h_0_cell h_0_home h_0_waste h_0_stock h_0_past h_0_start h_0_known h_0_sorted h_0_row h_0_best r_I_0), (h_0_of, eI cI 9 (r_I_0 1)), (h_0_kept, eI cI 9 (r_I_0 2)), (h_0_column, eJ cJ 5 (L_0 0)), (h_0_size, eI cI 5 (r_I_0 3)), (h_0_hidden, eI cI 5 (r_I_0 4)), (h_0_cell, eI cI 2 (r_I_0 5)), (h_0_home, eI cI 4 (r_I_0 6)), (h_0_waste, eI cI 8 (r_I_0 7)), (h_0_stock, eI cI 8 (r_I_0 8)), (h_0_past, eJ cJ 1616 (L_0 1)), (h_0_start, eJ cJ 8 (L_0 2)), (h_0_known, eJ cJ 3216 (L_0 3)), (h_0_sorted, eJ cJ 3216 (L_0 4)), (h_0_row, eI cI 16 (r_I_0 9)), (h_0_best, eJ cJ 8 (L_0 5))] := by
  refine CtV.of (cc := cX6_table) (maxL := 5) (by decide) rfl (Nat.le_of_ble_eq_true rfl) ?_
  intro p e s m args below meth c A H0 Q ls X hS hl kret
  have hCF := X.1
  obtain ⟨⟨hx, hb, hml, hown, hts⟩, hK, hA⟩ := X
  have hl : lv_has ls 5 [(0, .ref h_0), (1, .int v1), (2, .int v2), (3, .int v3), (4, .int v4)] := hl
  have q0 := hts (.fieldLink RX6 16 "PatienceryModel" "columns" "I") (List.mem_cons_of_mem _ mw_158)
  have inX6 : ∀ w ∈ u_ws RX6 TX6 32, w ∈ wtX6_table := fun w h => List.mem_cons_of_mem _ (inlX6 w h)
  have q2 := hts (.fieldLink RX6 19 "PatienceryModel" "cells" "I") (List.mem_cons_of_mem _ mw_159)
  have q3 := hts (.fieldLink RX6 22 "PatienceryModel" "build" "I") (List.mem_cons_of_mem _ mw_160)
  have q4 := hts (.fieldLink RX6 86 "PatienceryModel" "empty" "I") (List.mem_cons_of_mem _ mw_180)
  have B43 : ∀ (I_0 : Nat → Nat → Int32) (v1 : Int32) (v2 : Int32) (v3 : Int32) (v4 : Int32) (s1 : Int32) (H : Heap) (locs : List Loc) (ls : Array Slot), HS D A H0 [(h_0, oX6 h_0_of h_0_kept h_0_column h_0_size h_0_hidden h_0_cell h_0_home h_0_waste h_0_stock h_0_past h_0_start h_0_known h_0_sorted h_0_row h_0_best I_0), (h_0_of, eI cI 9 (I_0 1)), (h_0_kept, eI cI 9 (I_0 2)), (h_0_column, eJ cJ 5 (L_0 0)), (h_0_size, eI cI 5 (I_0 3)), (h_0_hidden, eI cI 5 (I_0 4)), (h_0_cell, eI cI 2 (I_0 5)), (h_0_home, eI cI 4 (I_0 6)), (h_0_waste, eI cI 8 (I_0 7)), (h_0_stock, eI cI 8 (I_0 8)), (h_0_past, eJ cJ 1616 (L_0 1)), (h_0_start, eJ cJ 8 (L_0 2)), (h_0_known, eJ cJ 3216 (L_0 3)), (h_0_sorted, eJ cJ 3216 (L_0 4)), (h_0_row, eI cI 16 (I_0 9)), (h_0_best, eJ cJ 8 (L_0 5))] H locs → lv_has ls 5 [(0, .ref h_0), (1, .int v1), (2, .int v2), (3, .int v3), (4, .int v4)] → F_X6_table_b43 L_0  I_0 v1 v2 v3 v4 s1 = some r_I_0 → W p l e ({ frames := 1, cells := 0, slots := 0, locals := 22 } : Room) s m args below meth c H locs 0 0 Q (F0 m 43 ls [.int s1, .ref h_0]) := by
    intro I_0 v1 v2 v3 v4 s1 H locs ls hS hl hF
    unfold F_X6_table_b43 at hF
    replace hF := cal2_e hF
    obtain ⟨x1, I_0u2, hc3, hF⟩ := hF
    refine kV_i (As := [.int s1]) (rest := []) (wr := []) (w2 := [(h_0, oX6 h_0_of h_0_kept h_0_column h_0_size h_0_hidden h_0_cell h_0_home h_0_waste h_0_stock h_0_past h_0_start h_0_known h_0_sorted h_0_row h_0_best I_0u2), (h_0_of, eI cI 9 (I_0u2 1)), (h_0_kept, eI cI 9 (I_0u2 2)), (h_0_column, eJ cJ 5 (L_0 0)), (h_0_size, eI cI 5 (I_0u2 3)), (h_0_hidden, eI cI 5 (I_0u2 4)), (h_0_cell, eI cI 2 (I_0u2 5)), (h_0_home, eI cI 4 (I_0u2 6)), (h_0_waste, eI cI 8 (I_0u2 7)), (h_0_stock, eI cI 8 (I_0u2 8)), (h_0_past, eJ cJ 1616 (L_0 1)), (h_0_start, eJ cJ 8 (L_0 2)), (h_0_known, eJ cJ 3216 (L_0 3)), (h_0_sorted, eJ cJ 3216 (L_0 4)), (h_0_row, eI cI 16 (I_0u2 9)), (h_0_best, eJ cJ 8 (L_0 5))]) hCF hK (c_X6_goesWell l D cI cJ h_0 h_0_of h_0_kept h_0_column h_0_size h_0_hidden h_0_cell h_0_home h_0_waste h_0_stock h_0_past h_0_start h_0_known h_0_sorted h_0_row h_0_best L_0 I_0 s1 x1 I_0u2 hc3) (cwV 1 hts (TBL_V mw_237 mw_238 mw_239 mw_5 mw_240) rfl rfl rfl pmX6_goesWell ⟨Nat.le_of_ble_eq_true rfl, Nat.le_of_ble_eq_true rfl⟩) hS hA [0, 1, 2, 3, 4, 5, 6, 7, 8, 9, 10, 11, 12, 13, 14, 15] [] rfl rfl rfl rfl (by decide) rfl rfl rfl hl.1 rfl (Nat.le_of_ble_eq_true rfl) ⟨Nat.zero_le _, Nat.zero_le _⟩ dX6_table_43 rfl (fun H locs hS => ?_)
    refine lv_if_eq (tgt := 70) hx hb dX6_table_46 (by decide) (fun c_4 => ?_) (fun c_4 => ?_)
    · replace hF := ifp hF c_4
      have e9_0 := Option.some.inj hF
      subst e9_0
      exact kret _ _ _ _ hS dX6_table_70
    · replace hF := ifn hF c_4
      refine lv_aload_n hx hb dX6_table_49 rfl (lv_at hl 0 rfl) ?_
      refine lv_iload_n hx hb dX6_table_50 rfl (lv_at hl 1 rfl) ?_
      replace hF := bnd_e hF
      obtain ⟨I_0u5, eI_0u5, hF⟩ := hF
      refine r_put (w2 := [(h_0, oX6 h_0_of h_0_kept h_0_column h_0_size h_0_hidden h_0_cell h_0_home h_0_waste h_0_stock h_0_past h_0_start h_0_known h_0_sorted h_0_row h_0_best I_0u5), (h_0_of, eI cI 9 (I_0u5 1)), (h_0_kept, eI cI 9 (I_0u5 2)), (h_0_column, eJ cJ 5 (L_0 0)), (h_0_size, eI cI 5 (I_0u5 3)), (h_0_hidden, eI cI 5 (I_0u5 4)), (h_0_cell, eI cI 2 (I_0u5 5)), (h_0_home, eI cI 4 (I_0u5 6)), (h_0_waste, eI cI 8 (I_0u5 7)), (h_0_stock, eI cI 8 (I_0u5 8)), (h_0_past, eJ cJ 1616 (L_0 1)), (h_0_start, eJ cJ 8 (L_0 2)), (h_0_known, eJ cJ 3216 (L_0 3)), (h_0_sorted, eJ cJ 3216 (L_0 4)), (h_0_row, eI cI 16 (I_0u5 9)), (h_0_best, eJ cJ 8 (L_0 5))]) hx hb hts inX6 tyX6 tyX6_ok nmX6 hown hK hS 0 3 rfl rfl (by decide) q0 rfl rfl rfl (Nat.le_of_ble_eq_true rfl) dX6_table_51 (by rw [eI_0u5]; rfl) (fun H locs hS => ?_)
      refine lv_aload_n hx hb dX6_table_54 rfl (lv_at hl 0 rfl) ?_
      refine lv_iload_n hx hb dX6_table_55 rfl (lv_at hl 2 rfl) ?_
      replace hF := bnd_e hF
      obtain ⟨I_0u6, eI_0u6, hF⟩ := hF
      refine r_put (w2 := [(h_0, oX6 h_0_of h_0_kept h_0_column h_0_size h_0_hidden h_0_cell h_0_home h_0_waste h_0_stock h_0_past h_0_start h_0_known h_0_sorted h_0_row h_0_best I_0u6), (h_0_of, eI cI 9 (I_0u6 1)), (h_0_kept, eI cI 9 (I_0u6 2)), (h_0_column, eJ cJ 5 (L_0 0)), (h_0_size, eI cI 5 (I_0u6 3)), (h_0_hidden, eI cI 5 (I_0u6 4)), (h_0_cell, eI cI 2 (I_0u6 5)), (h_0_home, eI cI 4 (I_0u6 6)), (h_0_waste, eI cI 8 (I_0u6 7)), (h_0_stock, eI cI 8 (I_0u6 8)), (h_0_past, eJ cJ 1616 (L_0 1)), (h_0_start, eJ cJ 8 (L_0 2)), (h_0_known, eJ cJ 3216 (L_0 3)), (h_0_sorted, eJ cJ 3216 (L_0 4)), (h_0_row, eI cI 16 (I_0u6 9)), (h_0_best, eJ cJ 8 (L_0 5))]) hx hb hts inX6 tyX6 tyX6_ok nmX6 hown hK hS 0 4 rfl rfl (by decide) q2 rfl rfl rfl (Nat.le_of_ble_eq_true rfl) dX6_table_56 (by rw [eI_0u6]; rfl) (fun H locs hS => ?_)
      refine lv_aload_n hx hb dX6_table_59 rfl (lv_at hl 0 rfl) ?_
      refine lv_iload_n hx hb dX6_table_60 rfl (lv_at hl 3 rfl) ?_
      replace hF := bnd_e hF
      obtain ⟨I_0u7, eI_0u7, hF⟩ := hF
      refine r_put (w2 := [(h_0, oX6 h_0_of h_0_kept h_0_column h_0_size h_0_hidden h_0_cell h_0_home h_0_waste h_0_stock h_0_past h_0_start h_0_known h_0_sorted h_0_row h_0_best I_0u7), (h_0_of, eI cI 9 (I_0u7 1)), (h_0_kept, eI cI 9 (I_0u7 2)), (h_0_column, eJ cJ 5 (L_0 0)), (h_0_size, eI cI 5 (I_0u7 3)), (h_0_hidden, eI cI 5 (I_0u7 4)), (h_0_cell, eI cI 2 (I_0u7 5)), (h_0_home, eI cI 4 (I_0u7 6)), (h_0_waste, eI cI 8 (I_0u7 7)), (h_0_stock, eI cI 8 (I_0u7 8)), (h_0_past, eJ cJ 1616 (L_0 1)), (h_0_start, eJ cJ 8 (L_0 2)), (h_0_known, eJ cJ 3216 (L_0 3)), (h_0_sorted, eJ cJ 3216 (L_0 4)), (h_0_row, eI cI 16 (I_0u7 9)), (h_0_best, eJ cJ 8 (L_0 5))]) hx hb hts inX6 tyX6 tyX6_ok nmX6 hown hK hS 0 5 rfl rfl (by decide) q3 rfl rfl rfl (Nat.le_of_ble_eq_true rfl) dX6_table_61 (by rw [eI_0u7]; rfl) (fun H locs hS => ?_)
      refine lv_aload_n hx hb dX6_table_64 rfl (lv_at hl 0 rfl) ?_
      refine lv_iload hx hb dX6_table_65 (lv_at hl 4 rfl) ?_
      replace hF := bnd_e hF
      obtain ⟨I_0u8, eI_0u8, hF⟩ := hF
      refine r_put (w2 := [(h_0, oX6 h_0_of h_0_kept h_0_column h_0_size h_0_hidden h_0_cell h_0_home h_0_waste h_0_stock h_0_past h_0_start h_0_known h_0_sorted h_0_row h_0_best I_0u8), (h_0_of, eI cI 9 (I_0u8 1)), (h_0_kept, eI cI 9 (I_0u8 2)), (h_0_column, eJ cJ 5 (L_0 0)), (h_0_size, eI cI 5 (I_0u8 3)), (h_0_hidden, eI cI 5 (I_0u8 4)), (h_0_cell, eI cI 2 (I_0u8 5)), (h_0_home, eI cI 4 (I_0u8 6)), (h_0_waste, eI cI 8 (I_0u8 7)), (h_0_stock, eI cI 8 (I_0u8 8)), (h_0_past, eJ cJ 1616 (L_0 1)), (h_0_start, eJ cJ 8 (L_0 2)), (h_0_known, eJ cJ 3216 (L_0 3)), (h_0_sorted, eJ cJ 3216 (L_0 4)), (h_0_row, eI cI 16 (I_0u8 9)), (h_0_best, eJ cJ 8 (L_0 5))]) hx hb hts inX6 tyX6 tyX6_ok nmX6 hown hK hS 0 6 rfl rfl (by decide) q4 rfl rfl rfl (Nat.le_of_ble_eq_true rfl) dX6_table_67 (by rw [eI_0u8]; rfl) (fun H locs hS => ?_)
      have e9_0 := Option.some.inj hF
      subst e9_0
      exact kret _ _ _ _ hS dX6_table_70
  unfold F_X6_table at hF
  refine lv_aload_n hx hb dX6_table_0 rfl (lv_at hl 0 rfl) ?_
  refine lv_iload_n hx hb dX6_table_1 rfl (lv_at hl 1 rfl) ?_
  refine lv_iconst (v := (nI 1)) hx hb dX6_table_2 (by decide) ?_
  refine lv_iconst (v := (nI 5)) hx hb dX6_table_3 (by decide) ?_
  replace hF := cal1_e hF
  obtain ⟨x9, hc10, hF⟩ := hF
  refine kS_i (As := [.int v1, .int (nI 1), .int (nI 5)]) (rest := [.ref h_0]) (wr := [(h_0, oX6 h_0_of h_0_kept h_0_column h_0_size h_0_hidden h_0_cell h_0_home h_0_waste h_0_stock h_0_past h_0_start h_0_known h_0_sorted h_0_row h_0_best I_0), (h_0_of, eI cI 9 (I_0 1)), (h_0_kept, eI cI 9 (I_0 2)), (h_0_column, eJ cJ 5 (L_0 0)), (h_0_size, eI cI 5 (I_0 3)), (h_0_hidden, eI cI 5 (I_0 4)), (h_0_cell, eI cI 2 (I_0 5)), (h_0_home, eI cI 4 (I_0 6)), (h_0_waste, eI cI 8 (I_0 7)), (h_0_stock, eI cI 8 (I_0 8)), (h_0_past, eJ cJ 1616 (L_0 1)), (h_0_start, eJ cJ 8 (L_0 2)), (h_0_known, eJ cJ 3216 (L_0 3)), (h_0_sorted, eJ cJ 3216 (L_0 4)), (h_0_row, eI cI 16 (I_0 9)), (h_0_best, eJ cJ 8 (L_0 5))]) (w2 := [(h_0, oX6 h_0_of h_0_kept h_0_column h_0_size h_0_hidden h_0_cell h_0_home h_0_waste h_0_stock h_0_past h_0_start h_0_known h_0_sorted h_0_row h_0_best I_0), (h_0_of, eI cI 9 (I_0 1)), (h_0_kept, eI cI 9 (I_0 2)), (h_0_column, eJ cJ 5 (L_0 0)), (h_0_size, eI cI 5 (I_0 3)), (h_0_hidden, eI cI 5 (I_0 4)), (h_0_cell, eI cI 2 (I_0 5)), (h_0_home, eI cI 4 (I_0 6)), (h_0_waste, eI cI 8 (I_0 7)), (h_0_stock, eI cI 8 (I_0 8)), (h_0_past, eJ cJ 1616 (L_0 1)), (h_0_start, eJ cJ 8 (L_0 2)), (h_0_known, eJ cJ 3216 (L_0 3)), (h_0_sorted, eJ cJ 3216 (L_0 4)), (h_0_row, eI cI 16 (I_0 9)), (h_0_best, eJ cJ 8 (L_0 5))]) hCF hK (c_X6_in l D cI cJ v1 (nI 1) (nI 5) x9 hc10) (va_cwS 3 hts (TBL_S mw_234 mw_235 mw_5 mw_236) rfl rfl rfl pmX6_in.2 ⟨Nat.le_of_ble_eq_true rfl, Nat.le_of_ble_eq_true rfl⟩) hS hA [] [0, 1, 2, 3, 4, 5, 6, 7, 8, 9, 10, 11, 12, 13, 14, 15] rfl rfl rfl rfl (by decide) rfl hl.1 rfl (Nat.le_of_ble_eq_true rfl) ⟨Nat.zero_le _, Nat.zero_le _⟩ dX6_table_4 rfl (fun H locs hS => ?_)
  refine lv_if_eq (tgt := 42) hx hb dX6_table_7 (by decide) (fun c_11 => ?_) (fun c_11 => ?_)
  · replace hF := ifp hF c_11
    refine lv_iconst (v := (nI 1)) hx hb dX6_table_42 (by decide) ?_
    exact B43 I_0 v1 v2 v3 v4 (nI 1) _ _ _ hS (lv_sub hl [0, 1, 2, 3, 4] rfl) hF
  · replace hF := ifn hF c_11
    refine lv_iload_n hx hb dX6_table_10 rfl (lv_at hl 2 rfl) ?_
    refine lv_iconst (v := (nI 0)) hx hb dX6_table_11 (by decide) ?_
    refine lv_iconst (v := (nI 2)) hx hb dX6_table_12 (by decide) ?_
    replace hF := cal1_e hF
    obtain ⟨x12, hc13, hF⟩ := hF
    refine kS_i (As := [.int v2, .int (nI 0), .int (nI 2)]) (rest := [.ref h_0]) (wr := [(h_0, oX6 h_0_of h_0_kept h_0_column h_0_size h_0_hidden h_0_cell h_0_home h_0_waste h_0_stock h_0_past h_0_start h_0_known h_0_sorted h_0_row h_0_best I_0), (h_0_of, eI cI 9 (I_0 1)), (h_0_kept, eI cI 9 (I_0 2)), (h_0_column, eJ cJ 5 (L_0 0)), (h_0_size, eI cI 5 (I_0 3)), (h_0_hidden, eI cI 5 (I_0 4)), (h_0_cell, eI cI 2 (I_0 5)), (h_0_home, eI cI 4 (I_0 6)), (h_0_waste, eI cI 8 (I_0 7)), (h_0_stock, eI cI 8 (I_0 8)), (h_0_past, eJ cJ 1616 (L_0 1)), (h_0_start, eJ cJ 8 (L_0 2)), (h_0_known, eJ cJ 3216 (L_0 3)), (h_0_sorted, eJ cJ 3216 (L_0 4)), (h_0_row, eI cI 16 (I_0 9)), (h_0_best, eJ cJ 8 (L_0 5))]) (w2 := [(h_0, oX6 h_0_of h_0_kept h_0_column h_0_size h_0_hidden h_0_cell h_0_home h_0_waste h_0_stock h_0_past h_0_start h_0_known h_0_sorted h_0_row h_0_best I_0), (h_0_of, eI cI 9 (I_0 1)), (h_0_kept, eI cI 9 (I_0 2)), (h_0_column, eJ cJ 5 (L_0 0)), (h_0_size, eI cI 5 (I_0 3)), (h_0_hidden, eI cI 5 (I_0 4)), (h_0_cell, eI cI 2 (I_0 5)), (h_0_home, eI cI 4 (I_0 6)), (h_0_waste, eI cI 8 (I_0 7)), (h_0_stock, eI cI 8 (I_0 8)), (h_0_past, eJ cJ 1616 (L_0 1)), (h_0_start, eJ cJ 8 (L_0 2)), (h_0_known, eJ cJ 3216 (L_0 3)), (h_0_sorted, eJ cJ 3216 (L_0 4)), (h_0_row, eI cI 16 (I_0 9)), (h_0_best, eJ cJ 8 (L_0 5))]) hCF hK (c_X6_in l D cI cJ v2 (nI 0) (nI 2) x12 hc13) (va_cwS 3 hts (TBL_S mw_234 mw_235 mw_5 mw_236) rfl rfl rfl pmX6_in.2 ⟨Nat.le_of_ble_eq_true rfl, Nat.le_of_ble_eq_true rfl⟩) hS hA [] [0, 1, 2, 3, 4, 5, 6, 7, 8, 9, 10, 11, 12, 13, 14, 15] rfl rfl rfl rfl (by decide) rfl hl.1 rfl (Nat.le_of_ble_eq_true rfl) ⟨Nat.zero_le _, Nat.zero_le _⟩ dX6_table_13 rfl (fun H locs hS => ?_)
    refine lv_if_eq (tgt := 42) hx hb dX6_table_16 (by decide) (fun c_14 => ?_) (fun c_14 => ?_)
    · replace hF := ifp hF c_14
      refine lv_iconst (v := (nI 1)) hx hb dX6_table_42 (by decide) ?_
      exact B43 I_0 v1 v2 v3 v4 (nI 1) _ _ _ hS (lv_sub hl [0, 1, 2, 3, 4] rfl) hF
    · replace hF := ifn hF c_14
      refine lv_iload_n hx hb dX6_table_19 rfl (lv_at hl 3 rfl) ?_
      refine lv_iconst (v := (nI 0)) hx hb dX6_table_20 (by decide) ?_
      refine lv_iconst (v := (nI 2)) hx hb dX6_table_21 (by decide) ?_
      replace hF := cal1_e hF
      obtain ⟨x15, hc16, hF⟩ := hF
      refine kS_i (As := [.int v3, .int (nI 0), .int (nI 2)]) (rest := [.ref h_0]) (wr := [(h_0, oX6 h_0_of h_0_kept h_0_column h_0_size h_0_hidden h_0_cell h_0_home h_0_waste h_0_stock h_0_past h_0_start h_0_known h_0_sorted h_0_row h_0_best I_0), (h_0_of, eI cI 9 (I_0 1)), (h_0_kept, eI cI 9 (I_0 2)), (h_0_column, eJ cJ 5 (L_0 0)), (h_0_size, eI cI 5 (I_0 3)), (h_0_hidden, eI cI 5 (I_0 4)), (h_0_cell, eI cI 2 (I_0 5)), (h_0_home, eI cI 4 (I_0 6)), (h_0_waste, eI cI 8 (I_0 7)), (h_0_stock, eI cI 8 (I_0 8)), (h_0_past, eJ cJ 1616 (L_0 1)), (h_0_start, eJ cJ 8 (L_0 2)), (h_0_known, eJ cJ 3216 (L_0 3)), (h_0_sorted, eJ cJ 3216 (L_0 4)), (h_0_row, eI cI 16 (I_0 9)), (h_0_best, eJ cJ 8 (L_0 5))]) (w2 := [(h_0, oX6 h_0_of h_0_kept h_0_column h_0_size h_0_hidden h_0_cell h_0_home h_0_waste h_0_stock h_0_past h_0_start h_0_known h_0_sorted h_0_row h_0_best I_0), (h_0_of, eI cI 9 (I_0 1)), (h_0_kept, eI cI 9 (I_0 2)), (h_0_column, eJ cJ 5 (L_0 0)), (h_0_size, eI cI 5 (I_0 3)), (h_0_hidden, eI cI 5 (I_0 4)), (h_0_cell, eI cI 2 (I_0 5)), (h_0_home, eI cI 4 (I_0 6)), (h_0_waste, eI cI 8 (I_0 7)), (h_0_stock, eI cI 8 (I_0 8)), (h_0_past, eJ cJ 1616 (L_0 1)), (h_0_start, eJ cJ 8 (L_0 2)), (h_0_known, eJ cJ 3216 (L_0 3)), (h_0_sorted, eJ cJ 3216 (L_0 4)), (h_0_row, eI cI 16 (I_0 9)), (h_0_best, eJ cJ 8 (L_0 5))]) hCF hK (c_X6_in l D cI cJ v3 (nI 0) (nI 2) x15 hc16) (va_cwS 3 hts (TBL_S mw_234 mw_235 mw_5 mw_236) rfl rfl rfl pmX6_in.2 ⟨Nat.le_of_ble_eq_true rfl, Nat.le_of_ble_eq_true rfl⟩) hS hA [] [0, 1, 2, 3, 4, 5, 6, 7, 8, 9, 10, 11, 12, 13, 14, 15] rfl rfl rfl rfl (by decide) rfl hl.1 rfl (Nat.le_of_ble_eq_true rfl) ⟨Nat.zero_le _, Nat.zero_le _⟩ dX6_table_22 rfl (fun H locs hS => ?_)
      refine lv_if_eq (tgt := 42) hx hb dX6_table_25 (by decide) (fun c_17 => ?_) (fun c_17 => ?_)
      · replace hF := ifp hF c_17
        refine lv_iconst (v := (nI 1)) hx hb dX6_table_42 (by decide) ?_
        exact B43 I_0 v1 v2 v3 v4 (nI 1) _ _ _ hS (lv_sub hl [0, 1, 2, 3, 4] rfl) hF
      · replace hF := ifn hF c_17
        refine lv_iload hx hb dX6_table_28 (lv_at hl 4 rfl) ?_
        refine lv_iconst (v := (nI 0)) hx hb dX6_table_30 (by decide) ?_
        refine lv_iconst (v := (nI 2)) hx hb dX6_table_31 (by decide) ?_
        replace hF := cal1_e hF
        obtain ⟨x18, hc19, hF⟩ := hF
        refine kS_i (As := [.int v4, .int (nI 0), .int (nI 2)]) (rest := [.ref h_0]) (wr := [(h_0, oX6 h_0_of h_0_kept h_0_column h_0_size h_0_hidden h_0_cell h_0_home h_0_waste h_0_stock h_0_past h_0_start h_0_known h_0_sorted h_0_row h_0_best I_0), (h_0_of, eI cI 9 (I_0 1)), (h_0_kept, eI cI 9 (I_0 2)), (h_0_column, eJ cJ 5 (L_0 0)), (h_0_size, eI cI 5 (I_0 3)), (h_0_hidden, eI cI 5 (I_0 4)), (h_0_cell, eI cI 2 (I_0 5)), (h_0_home, eI cI 4 (I_0 6)), (h_0_waste, eI cI 8 (I_0 7)), (h_0_stock, eI cI 8 (I_0 8)), (h_0_past, eJ cJ 1616 (L_0 1)), (h_0_start, eJ cJ 8 (L_0 2)), (h_0_known, eJ cJ 3216 (L_0 3)), (h_0_sorted, eJ cJ 3216 (L_0 4)), (h_0_row, eI cI 16 (I_0 9)), (h_0_best, eJ cJ 8 (L_0 5))]) (w2 := [(h_0, oX6 h_0_of h_0_kept h_0_column h_0_size h_0_hidden h_0_cell h_0_home h_0_waste h_0_stock h_0_past h_0_start h_0_known h_0_sorted h_0_row h_0_best I_0), (h_0_of, eI cI 9 (I_0 1)), (h_0_kept, eI cI 9 (I_0 2)), (h_0_column, eJ cJ 5 (L_0 0)), (h_0_size, eI cI 5 (I_0 3)), (h_0_hidden, eI cI 5 (I_0 4)), (h_0_cell, eI cI 2 (I_0 5)), (h_0_home, eI cI 4 (I_0 6)), (h_0_waste, eI cI 8 (I_0 7)), (h_0_stock, eI cI 8 (I_0 8)), (h_0_past, eJ cJ 1616 (L_0 1)), (h_0_start, eJ cJ 8 (L_0 2)), (h_0_known, eJ cJ 3216 (L_0 3)), (h_0_sorted, eJ cJ 3216 (L_0 4)), (h_0_row, eI cI 16 (I_0 9)), (h_0_best, eJ cJ 8 (L_0 5))]) hCF hK (c_X6_in l D cI cJ v4 (nI 0) (nI 2) x18 hc19) (va_cwS 3 hts (TBL_S mw_234 mw_235 mw_5 mw_236) rfl rfl rfl pmX6_in.2 ⟨Nat.le_of_ble_eq_true rfl, Nat.le_of_ble_eq_true rfl⟩) hS hA [] [0, 1, 2, 3, 4, 5, 6, 7, 8, 9, 10, 11, 12, 13, 14, 15] rfl rfl rfl rfl (by decide) rfl hl.1 rfl (Nat.le_of_ble_eq_true rfl) ⟨Nat.zero_le _, Nat.zero_le _⟩ dX6_table_32 rfl (fun H locs hS => ?_)
        refine lv_if_eq (tgt := 42) hx hb dX6_table_35 (by decide) (fun c_20 => ?_) (fun c_20 => ?_)
        · replace hF := ifp hF c_20
          refine lv_iconst (v := (nI 1)) hx hb dX6_table_42 (by decide) ?_
          exact B43 I_0 v1 v2 v3 v4 (nI 1) _ _ _ hS (lv_sub hl [0, 1, 2, 3, 4] rfl) hF
        · replace hF := ifn hF c_20
          refine lv_iconst (v := (nI 0)) hx hb dX6_table_38 (by decide) ?_
          refine lv_goto (tgt := 43) hx hb dX6_table_39 (by decide) ?_
          exact B43 I_0 v1 v2 v3 v4 (nI 0) _ _ _ hS (lv_sub hl [0, 1, 2, 3, 4] rfl) hF
set_option maxHeartbeats 4000000 in
set_option maxRecDepth 100000 in
theorem c_X6_stock (l : Launch) (D : va_G) (cI cJ : ClassId) (h_0 h_0_of h_0_kept h_0_column h_0_size h_0_hidden h_0_cell h_0_home h_0_waste h_0_stock h_0_past h_0_start h_0_known h_0_sorted h_0_row h_0_best : Nat) (L_0 : Nat → Nat → Int64) (I_0 : Nat → Nat → Int32) (v1 : Int32) (v2 : Int32) (v3 : Int32) (r_I_0 : Nat → Nat → Int32) (hF : F_X6_stock L_0 I_0 v1 v2 v3 = some r_I_0) : CtV l D [(cI, .int), (cJ, .long)] yX6_stock wtX6_stock ({ frames := 1, cells := 0, slots := 0, locals := 22 } : Room) [.ref h_0, .int v1, .int v2, .int v3] [(h_0, oX6 h_0_of h_0_kept h_0_column h_0_size h_0_hidden h_0_cell h_0_home h_0_waste h_0_stock h_0_past h_0_start h_0_known h_0_sorted h_0_row h_0_best I_0), (h_0_of, eI cI 9 (I_0 1)), (h_0_kept, eI cI 9 (I_0 2)), (h_0_column, eJ cJ 5 (L_0 0)), (h_0_size, eI cI 5 (I_0 3)), (h_0_hidden, eI cI 5 (I_0 4)), (h_0_cell, eI cI 2 (I_0 5)), (h_0_home, eI cI 4 (I_0 6)), (h_0_waste, eI cI 8 (I_0 7)), (h_0_stock, eI cI 8 (I_0 8)), (h_0_past, eJ cJ 1616 (L_0 1)), (h_0_start, eJ cJ 8 (L_0 2)), (h_0_known, eJ cJ 3216 (L_0 3)), (h_0_sorted, eJ cJ 3216 (L_0 4)), (h_0_row, eI cI 16 (I_0 9)), (h_0_best, eJ cJ 8 (L_0 5))] [(h_0, oX6 h_0_of h_0_kept h_0_column h_0_size h_0_hidden h_0_cell h_0_home h_0_waste h_0_stock h_0_past h_0_start h_0_known h_0_sorted h_0_row h_0_best r_I_0), (h_0_of, eI cI 9 (r_I_0 1)), (h_0_kept, eI cI 9 (r_I_0 2)), (h_0_column, eJ cJ 5 (L_0 0)), (h_0_size, eI cI 5 (r_I_0 3)), (h_0_hidden, eI cI 5 (r_I_0 4)), (h_0_cell, eI cI 2 (r_I_0 5)), (h_0_home, eI cI 4 (r_I_0 6)), (h_0_waste, eI cI 8 (r_I_0 7)), (h_0_stock, eI cI 8 (r_I_0 8)), (h_0_past, eJ cJ 1616 (L_0 1)), (h_0_start, eJ cJ 8 (L_0 2)), (h_0_known, eJ cJ 3216 (L_0 3)), (h_0_sorted, eJ cJ 3216 (L_0 4)), (h_0_row, eI cI 16 (r_I_0 9)), (h_0_best, eJ cJ 8 (L_0 5))] := by
  refine CtV.of (cc := cX6_stock) (maxL := 4) (by decide) rfl (Nat.le_of_ble_eq_true rfl) ?_
  intro p e s m args below meth c A H0 Q ls X hS hl kret
  have hCF := X.1
  obtain ⟨⟨hx, hb, hml, hown, hts⟩, hK, hA⟩ := X
  have hl : lv_has ls 4 [(0, .ref h_0), (1, .int v1), (2, .int v2), (3, .int v3)] := hl
  have q0 := hts (.fieldLink RX6 89 "PatienceryModel" "stocked" "I") (List.mem_cons_of_mem _ mw_181)
  have inX6 : ∀ w ∈ u_ws RX6 TX6 32, w ∈ wtX6_stock := fun w h => List.mem_cons_of_mem _ (inlX6 w h)
  have q2 := hts (.fieldLink RX6 92 "PatienceryModel" "again" "I") (List.mem_cons_of_mem _ mw_182)
  have q3 := hts (.fieldLink RX6 95 "PatienceryModel" "hides" "Z") (List.mem_cons_of_mem _ mw_183)
  have q4 := hts (.fieldLink RX6 7 "PatienceryModel" "suits" "I") (List.mem_cons_of_mem _ mw_156)
  have q5 := hts (.fieldLink RX6 13 "PatienceryModel" "ranks" "I") (List.mem_cons_of_mem _ mw_157)
  have B38 : ∀ (I_0 : Nat → Nat → Int32) (v1 : Int32) (v2 : Int32) (v3 : Int32) (s1 : Int32) (H : Heap) (locs : List Loc) (ls : Array Slot), HS D A H0 [(h_0, oX6 h_0_of h_0_kept h_0_column h_0_size h_0_hidden h_0_cell h_0_home h_0_waste h_0_stock h_0_past h_0_start h_0_known h_0_sorted h_0_row h_0_best I_0), (h_0_of, eI cI 9 (I_0 1)), (h_0_kept, eI cI 9 (I_0 2)), (h_0_column, eJ cJ 5 (L_0 0)), (h_0_size, eI cI 5 (I_0 3)), (h_0_hidden, eI cI 5 (I_0 4)), (h_0_cell, eI cI 2 (I_0 5)), (h_0_home, eI cI 4 (I_0 6)), (h_0_waste, eI cI 8 (I_0 7)), (h_0_stock, eI cI 8 (I_0 8)), (h_0_past, eJ cJ 1616 (L_0 1)), (h_0_start, eJ cJ 8 (L_0 2)), (h_0_known, eJ cJ 3216 (L_0 3)), (h_0_sorted, eJ cJ 3216 (L_0 4)), (h_0_row, eI cI 16 (I_0 9)), (h_0_best, eJ cJ 8 (L_0 5))] H locs → lv_has ls 4 [(0, .ref h_0), (1, .int v1), (2, .int v2), (3, .int v3)] → F_X6_stock_b38 L_0  I_0 v1 v2 v3 s1 = some r_I_0 → W p l e ({ frames := 1, cells := 0, slots := 0, locals := 22 } : Room) s m args below meth c H locs 0 0 Q (F0 m 38 ls [.int s1, .ref h_0]) := by
    intro I_0 v1 v2 v3 s1 H locs ls hS hl hF
    unfold F_X6_stock_b38 at hF
    replace hF := cal2_e hF
    obtain ⟨x1, I_0u2, hc3, hF⟩ := hF
    refine kV_i (As := [.int s1]) (rest := []) (wr := []) (w2 := [(h_0, oX6 h_0_of h_0_kept h_0_column h_0_size h_0_hidden h_0_cell h_0_home h_0_waste h_0_stock h_0_past h_0_start h_0_known h_0_sorted h_0_row h_0_best I_0u2), (h_0_of, eI cI 9 (I_0u2 1)), (h_0_kept, eI cI 9 (I_0u2 2)), (h_0_column, eJ cJ 5 (L_0 0)), (h_0_size, eI cI 5 (I_0u2 3)), (h_0_hidden, eI cI 5 (I_0u2 4)), (h_0_cell, eI cI 2 (I_0u2 5)), (h_0_home, eI cI 4 (I_0u2 6)), (h_0_waste, eI cI 8 (I_0u2 7)), (h_0_stock, eI cI 8 (I_0u2 8)), (h_0_past, eJ cJ 1616 (L_0 1)), (h_0_start, eJ cJ 8 (L_0 2)), (h_0_known, eJ cJ 3216 (L_0 3)), (h_0_sorted, eJ cJ 3216 (L_0 4)), (h_0_row, eI cI 16 (I_0u2 9)), (h_0_best, eJ cJ 8 (L_0 5))]) hCF hK (c_X6_goesWell l D cI cJ h_0 h_0_of h_0_kept h_0_column h_0_size h_0_hidden h_0_cell h_0_home h_0_waste h_0_stock h_0_past h_0_start h_0_known h_0_sorted h_0_row h_0_best L_0 I_0 s1 x1 I_0u2 hc3) (cwV 1 hts (TBL_V mw_237 mw_238 mw_239 mw_5 mw_240) rfl rfl rfl pmX6_goesWell ⟨Nat.le_of_ble_eq_true rfl, Nat.le_of_ble_eq_true rfl⟩) hS hA [0, 1, 2, 3, 4, 5, 6, 7, 8, 9, 10, 11, 12, 13, 14, 15] [] rfl rfl rfl rfl (by decide) rfl rfl rfl hl.1 rfl (Nat.le_of_ble_eq_true rfl) ⟨Nat.zero_le _, Nat.zero_le _⟩ dX6_stock_38 rfl (fun H locs hS => ?_)
    refine lv_if_eq (tgt := 59) hx hb dX6_stock_41 (by decide) (fun c_4 => ?_) (fun c_4 => ?_)
    · replace hF := ifp hF c_4
      have e9_0 := Option.some.inj hF
      subst e9_0
      exact kret _ _ _ _ hS dX6_stock_59
    · replace hF := ifn hF c_4
      refine lv_aload_n hx hb dX6_stock_44 rfl (lv_at hl 0 rfl) ?_
      refine lv_iload_n hx hb dX6_stock_45 rfl (lv_at hl 1 rfl) ?_
      replace hF := bnd_e hF
      obtain ⟨I_0u5, eI_0u5, hF⟩ := hF
      refine r_put (w2 := [(h_0, oX6 h_0_of h_0_kept h_0_column h_0_size h_0_hidden h_0_cell h_0_home h_0_waste h_0_stock h_0_past h_0_start h_0_known h_0_sorted h_0_row h_0_best I_0u5), (h_0_of, eI cI 9 (I_0u5 1)), (h_0_kept, eI cI 9 (I_0u5 2)), (h_0_column, eJ cJ 5 (L_0 0)), (h_0_size, eI cI 5 (I_0u5 3)), (h_0_hidden, eI cI 5 (I_0u5 4)), (h_0_cell, eI cI 2 (I_0u5 5)), (h_0_home, eI cI 4 (I_0u5 6)), (h_0_waste, eI cI 8 (I_0u5 7)), (h_0_stock, eI cI 8 (I_0u5 8)), (h_0_past, eJ cJ 1616 (L_0 1)), (h_0_start, eJ cJ 8 (L_0 2)), (h_0_known, eJ cJ 3216 (L_0 3)), (h_0_sorted, eJ cJ 3216 (L_0 4)), (h_0_row, eI cI 16 (I_0u5 9)), (h_0_best, eJ cJ 8 (L_0 5))]) hx hb hts inX6 tyX6 tyX6_ok nmX6 hown hK hS 0 7 rfl rfl (by decide) q0 rfl rfl rfl (Nat.le_of_ble_eq_true rfl) dX6_stock_46 (by rw [eI_0u5]; rfl) (fun H locs hS => ?_)
      refine lv_aload_n hx hb dX6_stock_49 rfl (lv_at hl 0 rfl) ?_
      refine lv_iload_n hx hb dX6_stock_50 rfl (lv_at hl 2 rfl) ?_
      replace hF := bnd_e hF
      obtain ⟨I_0u6, eI_0u6, hF⟩ := hF
      refine r_put (w2 := [(h_0, oX6 h_0_of h_0_kept h_0_column h_0_size h_0_hidden h_0_cell h_0_home h_0_waste h_0_stock h_0_past h_0_start h_0_known h_0_sorted h_0_row h_0_best I_0u6), (h_0_of, eI cI 9 (I_0u6 1)), (h_0_kept, eI cI 9 (I_0u6 2)), (h_0_column, eJ cJ 5 (L_0 0)), (h_0_size, eI cI 5 (I_0u6 3)), (h_0_hidden, eI cI 5 (I_0u6 4)), (h_0_cell, eI cI 2 (I_0u6 5)), (h_0_home, eI cI 4 (I_0u6 6)), (h_0_waste, eI cI 8 (I_0u6 7)), (h_0_stock, eI cI 8 (I_0u6 8)), (h_0_past, eJ cJ 1616 (L_0 1)), (h_0_start, eJ cJ 8 (L_0 2)), (h_0_known, eJ cJ 3216 (L_0 3)), (h_0_sorted, eJ cJ 3216 (L_0 4)), (h_0_row, eI cI 16 (I_0u6 9)), (h_0_best, eJ cJ 8 (L_0 5))]) hx hb hts inX6 tyX6 tyX6_ok nmX6 hown hK hS 0 8 rfl rfl (by decide) q2 rfl rfl rfl (Nat.le_of_ble_eq_true rfl) dX6_stock_51 (by rw [eI_0u6]; rfl) (fun H locs hS => ?_)
      refine lv_aload_n hx hb dX6_stock_54 rfl (lv_at hl 0 rfl) ?_
      refine lv_iload_n hx hb dX6_stock_55 rfl (lv_at hl 3 rfl) ?_
      replace hF := zb_e hF
      obtain ⟨h01_8, hF⟩ := hF
      replace hF := bnd_e hF
      obtain ⟨I_0u7, eI_0u7, hF⟩ := hF
      refine r_put (w2 := [(h_0, oX6 h_0_of h_0_kept h_0_column h_0_size h_0_hidden h_0_cell h_0_home h_0_waste h_0_stock h_0_past h_0_start h_0_known h_0_sorted h_0_row h_0_best I_0u7), (h_0_of, eI cI 9 (I_0u7 1)), (h_0_kept, eI cI 9 (I_0u7 2)), (h_0_column, eJ cJ 5 (L_0 0)), (h_0_size, eI cI 5 (I_0u7 3)), (h_0_hidden, eI cI 5 (I_0u7 4)), (h_0_cell, eI cI 2 (I_0u7 5)), (h_0_home, eI cI 4 (I_0u7 6)), (h_0_waste, eI cI 8 (I_0u7 7)), (h_0_stock, eI cI 8 (I_0u7 8)), (h_0_past, eJ cJ 1616 (L_0 1)), (h_0_start, eJ cJ 8 (L_0 2)), (h_0_known, eJ cJ 3216 (L_0 3)), (h_0_sorted, eJ cJ 3216 (L_0 4)), (h_0_row, eI cI 16 (I_0u7 9)), (h_0_best, eJ cJ 8 (L_0 5))]) hx hb hts inX6 tyX6 tyX6_ok nmX6 hown hK hS 0 9 rfl rfl (by decide) q3 rfl (by rcases h01_8 with h | h <;> rw [h] <;> decide) (by rcases h01_8 with h | h <;> rw [h] <;> decide) (Nat.le_of_ble_eq_true rfl) dX6_stock_56 (by rw [eI_0u7]; rfl) (fun H locs hS => ?_)
      have e9_0 := Option.some.inj hF
      subst e9_0
      exact kret _ _ _ _ hS dX6_stock_59
  unfold F_X6_stock at hF
  refine lv_aload_n hx hb dX6_stock_0 rfl (lv_at hl 0 rfl) ?_
  refine lv_iload_n hx hb dX6_stock_1 rfl (lv_at hl 1 rfl) ?_
  refine lv_iconst (v := (nI 0)) hx hb dX6_stock_2 (by decide) ?_
  refine lv_bipush (v := (nI 8)) hx hb dX6_stock_3 (by decide) ?_
  replace hF := cal1_e hF
  obtain ⟨x9, hc10, hF⟩ := hF
  refine kS_i (As := [.int v1, .int (nI 0), .int (nI 8)]) (rest := [.ref h_0]) (wr := [(h_0, oX6 h_0_of h_0_kept h_0_column h_0_size h_0_hidden h_0_cell h_0_home h_0_waste h_0_stock h_0_past h_0_start h_0_known h_0_sorted h_0_row h_0_best I_0), (h_0_of, eI cI 9 (I_0 1)), (h_0_kept, eI cI 9 (I_0 2)), (h_0_column, eJ cJ 5 (L_0 0)), (h_0_size, eI cI 5 (I_0 3)), (h_0_hidden, eI cI 5 (I_0 4)), (h_0_cell, eI cI 2 (I_0 5)), (h_0_home, eI cI 4 (I_0 6)), (h_0_waste, eI cI 8 (I_0 7)), (h_0_stock, eI cI 8 (I_0 8)), (h_0_past, eJ cJ 1616 (L_0 1)), (h_0_start, eJ cJ 8 (L_0 2)), (h_0_known, eJ cJ 3216 (L_0 3)), (h_0_sorted, eJ cJ 3216 (L_0 4)), (h_0_row, eI cI 16 (I_0 9)), (h_0_best, eJ cJ 8 (L_0 5))]) (w2 := [(h_0, oX6 h_0_of h_0_kept h_0_column h_0_size h_0_hidden h_0_cell h_0_home h_0_waste h_0_stock h_0_past h_0_start h_0_known h_0_sorted h_0_row h_0_best I_0), (h_0_of, eI cI 9 (I_0 1)), (h_0_kept, eI cI 9 (I_0 2)), (h_0_column, eJ cJ 5 (L_0 0)), (h_0_size, eI cI 5 (I_0 3)), (h_0_hidden, eI cI 5 (I_0 4)), (h_0_cell, eI cI 2 (I_0 5)), (h_0_home, eI cI 4 (I_0 6)), (h_0_waste, eI cI 8 (I_0 7)), (h_0_stock, eI cI 8 (I_0 8)), (h_0_past, eJ cJ 1616 (L_0 1)), (h_0_start, eJ cJ 8 (L_0 2)), (h_0_known, eJ cJ 3216 (L_0 3)), (h_0_sorted, eJ cJ 3216 (L_0 4)), (h_0_row, eI cI 16 (I_0 9)), (h_0_best, eJ cJ 8 (L_0 5))]) hCF hK (c_X6_in l D cI cJ v1 (nI 0) (nI 8) x9 hc10) (va_cwS 3 hts (TBL_S mw_234 mw_235 mw_5 mw_236) rfl rfl rfl pmX6_in.2 ⟨Nat.le_of_ble_eq_true rfl, Nat.le_of_ble_eq_true rfl⟩) hS hA [] [0, 1, 2, 3, 4, 5, 6, 7, 8, 9, 10, 11, 12, 13, 14, 15] rfl rfl rfl rfl (by decide) rfl hl.1 rfl (Nat.le_of_ble_eq_true rfl) ⟨Nat.zero_le _, Nat.zero_le _⟩ dX6_stock_5 rfl (fun H locs hS => ?_)
  refine lv_if_eq (tgt := 37) hx hb dX6_stock_8 (by decide) (fun c_11 => ?_) (fun c_11 => ?_)
  · replace hF := ifp hF c_11
    refine lv_iconst (v := (nI 1)) hx hb dX6_stock_37 (by decide) ?_
    exact B38 I_0 v1 v2 v3 (nI 1) _ _ _ hS (lv_sub hl [0, 1, 2, 3] rfl) hF
  · replace hF := ifn hF c_11
    refine lv_iload_n hx hb dX6_stock_11 rfl (lv_at hl 2 rfl) ?_
    refine lv_iconst (v := (nI 0)) hx hb dX6_stock_12 (by decide) ?_
    refine lv_iconst (v := (nI 2)) hx hb dX6_stock_13 (by decide) ?_
    replace hF := cal1_e hF
    obtain ⟨x12, hc13, hF⟩ := hF
    refine kS_i (As := [.int v2, .int (nI 0), .int (nI 2)]) (rest := [.ref h_0]) (wr := [(h_0, oX6 h_0_of h_0_kept h_0_column h_0_size h_0_hidden h_0_cell h_0_home h_0_waste h_0_stock h_0_past h_0_start h_0_known h_0_sorted h_0_row h_0_best I_0), (h_0_of, eI cI 9 (I_0 1)), (h_0_kept, eI cI 9 (I_0 2)), (h_0_column, eJ cJ 5 (L_0 0)), (h_0_size, eI cI 5 (I_0 3)), (h_0_hidden, eI cI 5 (I_0 4)), (h_0_cell, eI cI 2 (I_0 5)), (h_0_home, eI cI 4 (I_0 6)), (h_0_waste, eI cI 8 (I_0 7)), (h_0_stock, eI cI 8 (I_0 8)), (h_0_past, eJ cJ 1616 (L_0 1)), (h_0_start, eJ cJ 8 (L_0 2)), (h_0_known, eJ cJ 3216 (L_0 3)), (h_0_sorted, eJ cJ 3216 (L_0 4)), (h_0_row, eI cI 16 (I_0 9)), (h_0_best, eJ cJ 8 (L_0 5))]) (w2 := [(h_0, oX6 h_0_of h_0_kept h_0_column h_0_size h_0_hidden h_0_cell h_0_home h_0_waste h_0_stock h_0_past h_0_start h_0_known h_0_sorted h_0_row h_0_best I_0), (h_0_of, eI cI 9 (I_0 1)), (h_0_kept, eI cI 9 (I_0 2)), (h_0_column, eJ cJ 5 (L_0 0)), (h_0_size, eI cI 5 (I_0 3)), (h_0_hidden, eI cI 5 (I_0 4)), (h_0_cell, eI cI 2 (I_0 5)), (h_0_home, eI cI 4 (I_0 6)), (h_0_waste, eI cI 8 (I_0 7)), (h_0_stock, eI cI 8 (I_0 8)), (h_0_past, eJ cJ 1616 (L_0 1)), (h_0_start, eJ cJ 8 (L_0 2)), (h_0_known, eJ cJ 3216 (L_0 3)), (h_0_sorted, eJ cJ 3216 (L_0 4)), (h_0_row, eI cI 16 (I_0 9)), (h_0_best, eJ cJ 8 (L_0 5))]) hCF hK (c_X6_in l D cI cJ v2 (nI 0) (nI 2) x12 hc13) (va_cwS 3 hts (TBL_S mw_234 mw_235 mw_5 mw_236) rfl rfl rfl pmX6_in.2 ⟨Nat.le_of_ble_eq_true rfl, Nat.le_of_ble_eq_true rfl⟩) hS hA [] [0, 1, 2, 3, 4, 5, 6, 7, 8, 9, 10, 11, 12, 13, 14, 15] rfl rfl rfl rfl (by decide) rfl hl.1 rfl (Nat.le_of_ble_eq_true rfl) ⟨Nat.zero_le _, Nat.zero_le _⟩ dX6_stock_14 rfl (fun H locs hS => ?_)
    refine lv_if_eq (tgt := 37) hx hb dX6_stock_17 (by decide) (fun c_14 => ?_) (fun c_14 => ?_)
    · replace hF := ifp hF c_14
      refine lv_iconst (v := (nI 1)) hx hb dX6_stock_37 (by decide) ?_
      exact B38 I_0 v1 v2 v3 (nI 1) _ _ _ hS (lv_sub hl [0, 1, 2, 3] rfl) hF
    · replace hF := ifn hF c_14
      refine lv_aload_n hx hb dX6_stock_20 rfl (lv_at hl 0 rfl) ?_
      refine r_get hx hb hts inX6 hown hK hS 0 1 rfl rfl (by decide) q4 rfl dX6_stock_21 ?_
      refine lv_aload_n hx hb dX6_stock_24 rfl (lv_at hl 0 rfl) ?_
      refine r_get hx hb hts inX6 hown hK hS 0 2 rfl rfl (by decide) q5 rfl dX6_stock_25 ?_
      refine lv_imul hx hb dX6_stock_28 ?_
      refine lv_iload_n hx hb dX6_stock_29 rfl (lv_at hl 1 rfl) ?_
      refine lv_icmp_le (tgt := 37) hx hb dX6_stock_30 (by decide) (fun c_15 => ?_) (fun c_15 => ?_)
      · replace hF := ifp hF c_15
        refine lv_iconst (v := (nI 1)) hx hb dX6_stock_37 (by decide) ?_
        exact B38 I_0 v1 v2 v3 (nI 1) _ _ _ hS (lv_sub hl [0, 1, 2, 3] rfl) hF
      · replace hF := ifn hF c_15
        refine lv_iconst (v := (nI 0)) hx hb dX6_stock_33 (by decide) ?_
        refine lv_goto (tgt := 38) hx hb dX6_stock_34 (by decide) ?_
        exact B38 I_0 v1 v2 v3 (nI 0) _ _ _ hS (lv_sub hl [0, 1, 2, 3] rfl) hF
set_option maxHeartbeats 4000000 in
set_option maxRecDepth 100000 in
theorem c_X6_next (l : Launch) (D : va_G) (cI cJ : ClassId) (v0 : Int32) (v1 : Int64) (rv : Int64) (hF : F_X6_next v0 v1 = some rv) : CtL l D [(cI, .int), (cJ, .long)] yX6_next wtX6_next ({ frames := 0, cells := 0, slots := 0, locals := 0 } : Room) [.int v0, .long v1] [] [] rv := by
  refine CtL.of (cc := cX6_next) (maxL := 3) (by decide) rfl (Nat.le_of_ble_eq_true rfl) ?_
  intro p e s m args below meth c A H0 Q ls X hS hl kret
  have hCF := X.1
  obtain ⟨⟨hx, hb, hml, hown, hts⟩, hK, hA⟩ := X
  have hl : lv_has ls 3 [(0, .int v0), (1, .long v1)] := hl
  have q0 := hts (.constantLong RX6 115 (2147483648)) (List.mem_cons_of_mem _ mw_204)
  have q1 := hts (.constantLong RX6 111 (1103515245)) (List.mem_cons_of_mem _ mw_202)
  have q2 := hts (.constantLong RX6 113 (12345)) (List.mem_cons_of_mem _ mw_203)
  have q3 := hts (.constantLong RX6 107 (214013)) (List.mem_cons_of_mem _ mw_200)
  have q4 := hts (.constantLong RX6 109 (2531011)) (List.mem_cons_of_mem _ mw_201)
  have B25 : ∀ (s0 : Int64) (H : Heap) (locs : List Loc) (ls : Array Slot), HS D A H0 [] H locs → lv_has ls 3 [] → F_X6_next_b25   s0 = some rv → W p l e ({ frames := 0, cells := 0, slots := 0, locals := 0 } : Room) s m args below meth c H locs 0 0 Q (F0 m 25 ls [.long s0]) := by
    intro s0 H locs ls hS hl hF
    unfold F_X6_next_b25 at hF
    refine lv_ldc2 (v := (lN 2147483648)) hx hb hown q0 dX6_next_25 ?_
    replace hF := nzL_e hF
    obtain ⟨hne1, hF⟩ := hF
    refine lv_lrem hx hb dX6_next_28 hne1 ?_
    have e9_0 := Option.some.inj hF
    subst e9_0
    exact kret _ _ _ _ hS dX6_next_29
  unfold F_X6_next at hF
  refine lv_iload_n hx hb dX6_next_0 rfl (lv_at hl 0 rfl) ?_
  refine lv_if_ne (tgt := 16) hx hb dX6_next_1 (by decide) (fun c_2 => ?_) (fun c_2 => ?_)
  · replace hF := ifn hF c_2
    refine lv_lload_n hx hb dX6_next_16 rfl (lv_at hl 1 rfl) ?_
    refine lv_ldc2 (v := (lN 1103515245)) hx hb hown q1 dX6_next_17 ?_
    refine lv_lmul hx hb dX6_next_20 ?_
    refine lv_ldc2 (v := (lN 12345)) hx hb hown q2 dX6_next_21 ?_
    refine lv_ladd hx hb dX6_next_24 ?_
    exact B25 ((v1 * (lN 1103515245)) + (lN 12345)) _ _ _ hS (lv_sub hl [] rfl) hF
  · replace hF := ifp hF c_2
    refine lv_lload_n hx hb dX6_next_4 rfl (lv_at hl 1 rfl) ?_
    refine lv_ldc2 (v := (lN 214013)) hx hb hown q3 dX6_next_5 ?_
    refine lv_lmul hx hb dX6_next_8 ?_
    refine lv_ldc2 (v := (lN 2531011)) hx hb hown q4 dX6_next_9 ?_
    refine lv_ladd hx hb dX6_next_12 ?_
    refine lv_goto (tgt := 25) hx hb dX6_next_13 (by decide) ?_
    exact B25 ((v1 * (lN 214013)) + (lN 2531011)) _ _ _ hS (lv_sub hl [] rfl) hF
set_option maxHeartbeats 4000000 in
set_option maxRecDepth 100000 in
theorem c_X6_clear (l : Launch) (D : va_G) (cI cJ : ClassId) (h_0 h_0_of h_0_kept h_0_column h_0_size h_0_hidden h_0_cell h_0_home h_0_waste h_0_stock h_0_past h_0_start h_0_known h_0_sorted h_0_row h_0_best : Nat) (I_0 : Nat → Nat → Int32) (L_0 : Nat → Nat → Int64) (r_I_0 : Nat → Nat → Int32) (r_L_0 : Nat → Nat → Int64) (hF : F_X6_clear I_0 L_0 = some (r_I_0, r_L_0)) : CtV l D [(cI, .int), (cJ, .long)] yX6_clear wtX6_clear ({ frames := 0, cells := 0, slots := 0, locals := 0 } : Room) [.ref h_0] [(h_0, oX6 h_0_of h_0_kept h_0_column h_0_size h_0_hidden h_0_cell h_0_home h_0_waste h_0_stock h_0_past h_0_start h_0_known h_0_sorted h_0_row h_0_best I_0), (h_0_of, eI cI 9 (I_0 1)), (h_0_kept, eI cI 9 (I_0 2)), (h_0_column, eJ cJ 5 (L_0 0)), (h_0_size, eI cI 5 (I_0 3)), (h_0_hidden, eI cI 5 (I_0 4)), (h_0_cell, eI cI 2 (I_0 5)), (h_0_home, eI cI 4 (I_0 6)), (h_0_waste, eI cI 8 (I_0 7)), (h_0_stock, eI cI 8 (I_0 8)), (h_0_past, eJ cJ 1616 (L_0 1)), (h_0_start, eJ cJ 8 (L_0 2)), (h_0_known, eJ cJ 3216 (L_0 3)), (h_0_sorted, eJ cJ 3216 (L_0 4)), (h_0_row, eI cI 16 (I_0 9)), (h_0_best, eJ cJ 8 (L_0 5))] [(h_0, oX6 h_0_of h_0_kept h_0_column h_0_size h_0_hidden h_0_cell h_0_home h_0_waste h_0_stock h_0_past h_0_start h_0_known h_0_sorted h_0_row h_0_best r_I_0), (h_0_of, eI cI 9 (r_I_0 1)), (h_0_kept, eI cI 9 (r_I_0 2)), (h_0_column, eJ cJ 5 (r_L_0 0)), (h_0_size, eI cI 5 (r_I_0 3)), (h_0_hidden, eI cI 5 (r_I_0 4)), (h_0_cell, eI cI 2 (r_I_0 5)), (h_0_home, eI cI 4 (r_I_0 6)), (h_0_waste, eI cI 8 (r_I_0 7)), (h_0_stock, eI cI 8 (r_I_0 8)), (h_0_past, eJ cJ 1616 (r_L_0 1)), (h_0_start, eJ cJ 8 (r_L_0 2)), (h_0_known, eJ cJ 3216 (r_L_0 3)), (h_0_sorted, eJ cJ 3216 (r_L_0 4)), (h_0_row, eI cI 16 (r_I_0 9)), (h_0_best, eJ cJ 8 (r_L_0 5))] := by
  refine CtV.of (cc := cX6_clear) (maxL := 2) (by decide) rfl (Nat.le_of_ble_eq_true rfl) ?_
  intro p e s m args below meth c A H0 Q ls X hS hl kret
  have hCF := X.1
  obtain ⟨⟨hx, hb, hml, hown, hts⟩, hK, hA⟩ := X
  have hl : lv_has ls 2 [(0, .ref h_0)] := hl
  have q0 := hts (.fieldLink RX6 42 "PatienceryModel" "cell" "[I") (List.mem_cons_of_mem _ mw_166)
  have inX6 : ∀ w ∈ u_ws RX6 TX6 32, w ∈ wtX6_clear := fun w h => List.mem_cons_of_mem _ (inlX6 w h)
  have q2 := hts (.fieldLink RX6 117 "PatienceryModel" "wasted" "I") (List.mem_cons_of_mem _ mw_195)
  have q3 := hts (.fieldLink RX6 120 "PatienceryModel" "left" "I") (List.mem_cons_of_mem _ mw_190)
  have q4 := hts (.fieldLink RX6 123 "PatienceryModel" "turned" "I") (List.mem_cons_of_mem _ mw_196)
  have q5 := hts (.fieldLink RX6 45 "PatienceryModel" "home" "[I") (List.mem_cons_of_mem _ mw_167)
  have q6 := hts (.fieldLink RX6 32 "PatienceryModel" "column" "[J") (List.mem_cons_of_mem _ mw_163)
  have q7 := hts (.fieldLink RX6 36 "PatienceryModel" "size" "[I") (List.mem_cons_of_mem _ mw_164)
  have q8 := hts (.fieldLink RX6 39 "PatienceryModel" "hidden" "[I") (List.mem_cons_of_mem _ mw_165)
  have B54 : ∀ (I_0 : Nat → Nat → Int32) (L_0 : Nat → Nat → Int64) (H : Heap) (locs : List Loc) (ls : Array Slot), HS D A H0 [(h_0, oX6 h_0_of h_0_kept h_0_column h_0_size h_0_hidden h_0_cell h_0_home h_0_waste h_0_stock h_0_past h_0_start h_0_known h_0_sorted h_0_row h_0_best I_0), (h_0_of, eI cI 9 (I_0 1)), (h_0_kept, eI cI 9 (I_0 2)), (h_0_column, eJ cJ 5 (L_0 0)), (h_0_size, eI cI 5 (I_0 3)), (h_0_hidden, eI cI 5 (I_0 4)), (h_0_cell, eI cI 2 (I_0 5)), (h_0_home, eI cI 4 (I_0 6)), (h_0_waste, eI cI 8 (I_0 7)), (h_0_stock, eI cI 8 (I_0 8)), (h_0_past, eJ cJ 1616 (L_0 1)), (h_0_start, eJ cJ 8 (L_0 2)), (h_0_known, eJ cJ 3216 (L_0 3)), (h_0_sorted, eJ cJ 3216 (L_0 4)), (h_0_row, eI cI 16 (I_0 9)), (h_0_best, eJ cJ 8 (L_0 5))] H locs → lv_has ls 2 [(0, .ref h_0)] → F_X6_clear_b54   I_0 L_0 = some (r_I_0, r_L_0) → W p l e ({ frames := 0, cells := 0, slots := 0, locals := 0 } : Room) s m args below meth c H locs 0 0 Q (F0 m 54 ls []) := by
    intro I_0 L_0 H locs ls hS hl hF
    unfold F_X6_clear_b54 at hF
    refine lv_aload_n hx hb dX6_clear_54 rfl (lv_at hl 0 rfl) ?_
    refine r_get hx hb hts inX6 hown hK hS 0 18 rfl rfl (by decide) q0 rfl dX6_clear_55 ?_
    refine lv_iconst (v := (nI 0)) hx hb dX6_clear_58 (by decide) ?_
    refine lv_iconst (v := (-1)) hx hb dX6_clear_59 (by decide) ?_
    replace hF := wrA_e hF
    obtain ⟨hi2, I_0u1, eI_0u1, hF⟩ := hF
    refine r_iast (w2 := [(h_0, oX6 h_0_of h_0_kept h_0_column h_0_size h_0_hidden h_0_cell h_0_home h_0_waste h_0_stock h_0_past h_0_start h_0_known h_0_sorted h_0_row h_0_best I_0u1), (h_0_of, eI cI 9 (I_0u1 1)), (h_0_kept, eI cI 9 (I_0u1 2)), (h_0_column, eJ cJ 5 (L_0 0)), (h_0_size, eI cI 5 (I_0u1 3)), (h_0_hidden, eI cI 5 (I_0u1 4)), (h_0_cell, eI cI 2 (I_0u1 5)), (h_0_home, eI cI 4 (I_0u1 6)), (h_0_waste, eI cI 8 (I_0u1 7)), (h_0_stock, eI cI 8 (I_0u1 8)), (h_0_past, eJ cJ 1616 (L_0 1)), (h_0_start, eJ cJ 8 (L_0 2)), (h_0_known, eJ cJ 3216 (L_0 3)), (h_0_sorted, eJ cJ 3216 (L_0 4)), (h_0_row, eI cI 16 (I_0u1 9)), (h_0_best, eJ cJ 8 (L_0 5))]) hx hb hK hS 6 rfl rfl hi2 dX6_clear_60 (by rw [eI_0u1]; rfl) (fun H locs hS => ?_)
    refine lv_aload_n hx hb dX6_clear_61 rfl (lv_at hl 0 rfl) ?_
    refine r_get hx hb hts inX6 hown hK hS 0 18 rfl rfl (by decide) q0 rfl dX6_clear_62 ?_
    refine lv_iconst (v := (nI 1)) hx hb dX6_clear_65 (by decide) ?_
    refine lv_iconst (v := (-1)) hx hb dX6_clear_66 (by decide) ?_
    replace hF := wrA_e hF
    obtain ⟨hi4, I_0u3, eI_0u3, hF⟩ := hF
    refine r_iast (w2 := [(h_0, oX6 h_0_of h_0_kept h_0_column h_0_size h_0_hidden h_0_cell h_0_home h_0_waste h_0_stock h_0_past h_0_start h_0_known h_0_sorted h_0_row h_0_best I_0u3), (h_0_of, eI cI 9 (I_0u3 1)), (h_0_kept, eI cI 9 (I_0u3 2)), (h_0_column, eJ cJ 5 (L_0 0)), (h_0_size, eI cI 5 (I_0u3 3)), (h_0_hidden, eI cI 5 (I_0u3 4)), (h_0_cell, eI cI 2 (I_0u3 5)), (h_0_home, eI cI 4 (I_0u3 6)), (h_0_waste, eI cI 8 (I_0u3 7)), (h_0_stock, eI cI 8 (I_0u3 8)), (h_0_past, eJ cJ 1616 (L_0 1)), (h_0_start, eJ cJ 8 (L_0 2)), (h_0_known, eJ cJ 3216 (L_0 3)), (h_0_sorted, eJ cJ 3216 (L_0 4)), (h_0_row, eI cI 16 (I_0u3 9)), (h_0_best, eJ cJ 8 (L_0 5))]) hx hb hK hS 6 rfl rfl hi4 dX6_clear_67 (by rw [eI_0u3]; rfl) (fun H locs hS => ?_)
    refine lv_aload_n hx hb dX6_clear_68 rfl (lv_at hl 0 rfl) ?_
    refine lv_iconst (v := (nI 0)) hx hb dX6_clear_69 (by decide) ?_
    replace hF := bnd_e hF
    obtain ⟨I_0u5, eI_0u5, hF⟩ := hF
    refine r_put (w2 := [(h_0, oX6 h_0_of h_0_kept h_0_column h_0_size h_0_hidden h_0_cell h_0_home h_0_waste h_0_stock h_0_past h_0_start h_0_known h_0_sorted h_0_row h_0_best I_0u5), (h_0_of, eI cI 9 (I_0u5 1)), (h_0_kept, eI cI 9 (I_0u5 2)), (h_0_column, eJ cJ 5 (L_0 0)), (h_0_size, eI cI 5 (I_0u5 3)), (h_0_hidden, eI cI 5 (I_0u5 4)), (h_0_cell, eI cI 2 (I_0u5 5)), (h_0_home, eI cI 4 (I_0u5 6)), (h_0_waste, eI cI 8 (I_0u5 7)), (h_0_stock, eI cI 8 (I_0u5 8)), (h_0_past, eJ cJ 1616 (L_0 1)), (h_0_start, eJ cJ 8 (L_0 2)), (h_0_known, eJ cJ 3216 (L_0 3)), (h_0_sorted, eJ cJ 3216 (L_0 4)), (h_0_row, eI cI 16 (I_0u5 9)), (h_0_best, eJ cJ 8 (L_0 5))]) hx hb hts inX6 tyX6 tyX6_ok nmX6 hown hK hS 0 21 rfl rfl (by decide) q2 rfl rfl rfl (Nat.le_of_ble_eq_true rfl) dX6_clear_70 (by rw [eI_0u5]; rfl) (fun H locs hS => ?_)
    refine lv_aload_n hx hb dX6_clear_73 rfl (lv_at hl 0 rfl) ?_
    refine lv_iconst (v := (nI 0)) hx hb dX6_clear_74 (by decide) ?_
    replace hF := bnd_e hF
    obtain ⟨I_0u6, eI_0u6, hF⟩ := hF
    refine r_put (w2 := [(h_0, oX6 h_0_of h_0_kept h_0_column h_0_size h_0_hidden h_0_cell h_0_home h_0_waste h_0_stock h_0_past h_0_start h_0_known h_0_sorted h_0_row h_0_best I_0u6), (h_0_of, eI cI 9 (I_0u6 1)), (h_0_kept, eI cI 9 (I_0u6 2)), (h_0_column, eJ cJ 5 (L_0 0)), (h_0_size, eI cI 5 (I_0u6 3)), (h_0_hidden, eI cI 5 (I_0u6 4)), (h_0_cell, eI cI 2 (I_0u6 5)), (h_0_home, eI cI 4 (I_0u6 6)), (h_0_waste, eI cI 8 (I_0u6 7)), (h_0_stock, eI cI 8 (I_0u6 8)), (h_0_past, eJ cJ 1616 (L_0 1)), (h_0_start, eJ cJ 8 (L_0 2)), (h_0_known, eJ cJ 3216 (L_0 3)), (h_0_sorted, eJ cJ 3216 (L_0 4)), (h_0_row, eI cI 16 (I_0u6 9)), (h_0_best, eJ cJ 8 (L_0 5))]) hx hb hts inX6 tyX6 tyX6_ok nmX6 hown hK hS 0 23 rfl rfl (by decide) q3 rfl rfl rfl (Nat.le_of_ble_eq_true rfl) dX6_clear_75 (by rw [eI_0u6]; rfl) (fun H locs hS => ?_)
    refine lv_aload_n hx hb dX6_clear_78 rfl (lv_at hl 0 rfl) ?_
    refine lv_iconst (v := (nI 0)) hx hb dX6_clear_79 (by decide) ?_
    replace hF := bnd_e hF
    obtain ⟨I_0u7, eI_0u7, hF⟩ := hF
    refine r_put (w2 := [(h_0, oX6 h_0_of h_0_kept h_0_column h_0_size h_0_hidden h_0_cell h_0_home h_0_waste h_0_stock h_0_past h_0_start h_0_known h_0_sorted h_0_row h_0_best I_0u7), (h_0_of, eI cI 9 (I_0u7 1)), (h_0_kept, eI cI 9 (I_0u7 2)), (h_0_column, eJ cJ 5 (L_0 0)), (h_0_size, eI cI 5 (I_0u7 3)), (h_0_hidden, eI cI 5 (I_0u7 4)), (h_0_cell, eI cI 2 (I_0u7 5)), (h_0_home, eI cI 4 (I_0u7 6)), (h_0_waste, eI cI 8 (I_0u7 7)), (h_0_stock, eI cI 8 (I_0u7 8)), (h_0_past, eJ cJ 1616 (L_0 1)), (h_0_start, eJ cJ 8 (L_0 2)), (h_0_known, eJ cJ 3216 (L_0 3)), (h_0_sorted, eJ cJ 3216 (L_0 4)), (h_0_row, eI cI 16 (I_0u7 9)), (h_0_best, eJ cJ 8 (L_0 5))]) hx hb hts inX6 tyX6 tyX6_ok nmX6 hown hK hS 0 24 rfl rfl (by decide) q4 rfl rfl rfl (Nat.le_of_ble_eq_true rfl) dX6_clear_80 (by rw [eI_0u7]; rfl) (fun H locs hS => ?_)
    have e9_0 := Option.some.inj hF
    obtain ⟨f9_0, e9_1⟩ := Prod.mk.inj e9_0
    subst f9_0
    subst e9_1
    exact kret _ _ _ _ hS dX6_clear_83
  have S36 : ∀ (K36 : (Nat → Nat → Int32) → (Nat → Nat → Int64) → Int32 → Option ((Nat → Nat → Int32) × (Nat → Nat → Int64))) (_ : ∀ (I_0 : Nat → Nat → Int32) (L_0 : Nat → Nat → Int64) (v1 : Int32) (H : Heap) (locs : List Loc) (ls : Array Slot), HS D A H0 [(h_0, oX6 h_0_of h_0_kept h_0_column h_0_size h_0_hidden h_0_cell h_0_home h_0_waste h_0_stock h_0_past h_0_start h_0_known h_0_sorted h_0_row h_0_best I_0), (h_0_of, eI cI 9 (I_0 1)), (h_0_kept, eI cI 9 (I_0 2)), (h_0_column, eJ cJ 5 (L_0 0)), (h_0_size, eI cI 5 (I_0 3)), (h_0_hidden, eI cI 5 (I_0 4)), (h_0_cell, eI cI 2 (I_0 5)), (h_0_home, eI cI 4 (I_0 6)), (h_0_waste, eI cI 8 (I_0 7)), (h_0_stock, eI cI 8 (I_0 8)), (h_0_past, eJ cJ 1616 (L_0 1)), (h_0_start, eJ cJ 8 (L_0 2)), (h_0_known, eJ cJ 3216 (L_0 3)), (h_0_sorted, eJ cJ 3216 (L_0 4)), (h_0_row, eI cI 16 (I_0 9)), (h_0_best, eJ cJ 8 (L_0 5))] H locs → lv_has ls 2 [(0, .ref h_0), (1, .int v1)] → K36 I_0 L_0 v1 = some (r_I_0, r_L_0) → W p l e ({ frames := 0, cells := 0, slots := 0, locals := 0 } : Room) s m args below meth c H locs 0 0 Q (F0 m 36 ls [])) (I_0 : Nat → Nat → Int32) (L_0 : Nat → Nat → Int64) (v1 : Int32) (H : Heap) (locs : List Loc) (ls : Array Slot), HS D A H0 [(h_0, oX6 h_0_of h_0_kept h_0_column h_0_size h_0_hidden h_0_cell h_0_home h_0_waste h_0_stock h_0_past h_0_start h_0_known h_0_sorted h_0_row h_0_best I_0), (h_0_of, eI cI 9 (I_0 1)), (h_0_kept, eI cI 9 (I_0 2)), (h_0_column, eJ cJ 5 (L_0 0)), (h_0_size, eI cI 5 (I_0 3)), (h_0_hidden, eI cI 5 (I_0 4)), (h_0_cell, eI cI 2 (I_0 5)), (h_0_home, eI cI 4 (I_0 6)), (h_0_waste, eI cI 8 (I_0 7)), (h_0_stock, eI cI 8 (I_0 8)), (h_0_past, eJ cJ 1616 (L_0 1)), (h_0_start, eJ cJ 8 (L_0 2)), (h_0_known, eJ cJ 3216 (L_0 3)), (h_0_sorted, eJ cJ 3216 (L_0 4)), (h_0_row, eI cI 16 (I_0 9)), (h_0_best, eJ cJ 8 (L_0 5))] H locs → lv_has ls 2 [(0, .ref h_0), (1, .int v1)] → F_X6_clear_s36  K36 I_0 L_0 v1 = some (r_I_0, r_L_0) → W p l e ({ frames := 0, cells := 0, slots := 0, locals := 0 } : Room) s m args below meth c H locs 0 0 Q (F0 m 36 ls []) := by
    intro K36 hK36 I_0 L_0 v1 H locs ls hS hl hF
    unfold F_X6_clear_s36 at hF
    refine lv_iload_n hx hb dX6_clear_36 rfl (lv_at hl 1 rfl) ?_
    refine lv_iconst (v := (nI 4)) hx hb dX6_clear_37 (by decide) ?_
    refine lv_icmp_ge (tgt := 54) hx hb dX6_clear_38 (by decide) (fun c_8 => ?_) (fun c_8 => ?_)
    · replace hF := ifp hF c_8
      exact B54 I_0 L_0 _ _ _ hS (lv_sub hl [0] rfl) hF
    · replace hF := ifn hF c_8
      refine lv_aload_n hx hb dX6_clear_41 rfl (lv_at hl 0 rfl) ?_
      refine r_get hx hb hts inX6 hown hK hS 0 19 rfl rfl (by decide) q5 rfl dX6_clear_42 ?_
      refine lv_iload_n hx hb dX6_clear_45 rfl (lv_at hl 1 rfl) ?_
      refine lv_iconst (v := (nI 0)) hx hb dX6_clear_46 (by decide) ?_
      replace hF := wrA_e hF
      obtain ⟨hi10, I_0u9, eI_0u9, hF⟩ := hF
      refine r_iast (w2 := [(h_0, oX6 h_0_of h_0_kept h_0_column h_0_size h_0_hidden h_0_cell h_0_home h_0_waste h_0_stock h_0_past h_0_start h_0_known h_0_sorted h_0_row h_0_best I_0u9), (h_0_of, eI cI 9 (I_0u9 1)), (h_0_kept, eI cI 9 (I_0u9 2)), (h_0_column, eJ cJ 5 (L_0 0)), (h_0_size, eI cI 5 (I_0u9 3)), (h_0_hidden, eI cI 5 (I_0u9 4)), (h_0_cell, eI cI 2 (I_0u9 5)), (h_0_home, eI cI 4 (I_0u9 6)), (h_0_waste, eI cI 8 (I_0u9 7)), (h_0_stock, eI cI 8 (I_0u9 8)), (h_0_past, eJ cJ 1616 (L_0 1)), (h_0_start, eJ cJ 8 (L_0 2)), (h_0_known, eJ cJ 3216 (L_0 3)), (h_0_sorted, eJ cJ 3216 (L_0 4)), (h_0_row, eI cI 16 (I_0u9 9)), (h_0_best, eJ cJ 8 (L_0 5))]) hx hb hK hS 7 rfl rfl hi10 dX6_clear_47 (by rw [eI_0u9]; rfl) (fun H locs hS => ?_)
      refine lv_iinc (v := v1 + (nI 1)) (lv' := [(1, .int (v1 + (nI 1))), (0, .ref h_0)]) hx hb dX6_clear_48 hl (k := 1) rfl rfl (by decide) rfl (fun ls hl => ?_)
      refine lv_goto (tgt := 36) hx hb dX6_clear_51 (by decide) ?_
      exact hK36 I_0u9 L_0 (v1 + (nI 1)) _ _ _ hS (lv_sub hl [1, 0] rfl) hF
  have L36 : ∀  (n : Nat) (I_0 : Nat → Nat → Int32) (L_0 : Nat → Nat → Int64) (v1 : Int32) (H : Heap) (locs : List Loc) (ls : Array Slot), HS D A H0 [(h_0, oX6 h_0_of h_0_kept h_0_column h_0_size h_0_hidden h_0_cell h_0_home h_0_waste h_0_stock h_0_past h_0_start h_0_known h_0_sorted h_0_row h_0_best I_0), (h_0_of, eI cI 9 (I_0 1)), (h_0_kept, eI cI 9 (I_0 2)), (h_0_column, eJ cJ 5 (L_0 0)), (h_0_size, eI cI 5 (I_0 3)), (h_0_hidden, eI cI 5 (I_0 4)), (h_0_cell, eI cI 2 (I_0 5)), (h_0_home, eI cI 4 (I_0 6)), (h_0_waste, eI cI 8 (I_0 7)), (h_0_stock, eI cI 8 (I_0 8)), (h_0_past, eJ cJ 1616 (L_0 1)), (h_0_start, eJ cJ 8 (L_0 2)), (h_0_known, eJ cJ 3216 (L_0 3)), (h_0_sorted, eJ cJ 3216 (L_0 4)), (h_0_row, eI cI 16 (I_0 9)), (h_0_best, eJ cJ 8 (L_0 5))] H locs → lv_has ls 2 [(0, .ref h_0), (1, .int v1)] → F_X6_clear_L36   n I_0 L_0 v1 = some (r_I_0, r_L_0) → W p l e ({ frames := 0, cells := 0, slots := 0, locals := 0 } : Room) s m args below meth c H locs 0 0 Q (F0 m 36 ls []) := by
    intro  n
    induction n with
    | zero => intro I_0 L_0 v1 H locs ls hS hl hF; exact nomatch (show (none : Option ((Nat → Nat → Int32) × (Nat → Nat → Int64))) = some _ from hF)
    | succ n ih => intro I_0 L_0 v1 H locs ls hS hl hF; exact S36  _ ih I_0 L_0 v1 H locs ls hS hl hF
  have S2 : ∀ (K2 : (Nat → Nat → Int32) → (Nat → Nat → Int64) → Int32 → Option ((Nat → Nat → Int32) × (Nat → Nat → Int64))) (_ : ∀ (I_0 : Nat → Nat → Int32) (L_0 : Nat → Nat → Int64) (v1 : Int32) (H : Heap) (locs : List Loc) (ls : Array Slot), HS D A H0 [(h_0, oX6 h_0_of h_0_kept h_0_column h_0_size h_0_hidden h_0_cell h_0_home h_0_waste h_0_stock h_0_past h_0_start h_0_known h_0_sorted h_0_row h_0_best I_0), (h_0_of, eI cI 9 (I_0 1)), (h_0_kept, eI cI 9 (I_0 2)), (h_0_column, eJ cJ 5 (L_0 0)), (h_0_size, eI cI 5 (I_0 3)), (h_0_hidden, eI cI 5 (I_0 4)), (h_0_cell, eI cI 2 (I_0 5)), (h_0_home, eI cI 4 (I_0 6)), (h_0_waste, eI cI 8 (I_0 7)), (h_0_stock, eI cI 8 (I_0 8)), (h_0_past, eJ cJ 1616 (L_0 1)), (h_0_start, eJ cJ 8 (L_0 2)), (h_0_known, eJ cJ 3216 (L_0 3)), (h_0_sorted, eJ cJ 3216 (L_0 4)), (h_0_row, eI cI 16 (I_0 9)), (h_0_best, eJ cJ 8 (L_0 5))] H locs → lv_has ls 2 [(0, .ref h_0), (1, .int v1)] → K2 I_0 L_0 v1 = some (r_I_0, r_L_0) → W p l e ({ frames := 0, cells := 0, slots := 0, locals := 0 } : Room) s m args below meth c H locs 0 0 Q (F0 m 2 ls [])) (I_0 : Nat → Nat → Int32) (L_0 : Nat → Nat → Int64) (v1 : Int32) (H : Heap) (locs : List Loc) (ls : Array Slot), HS D A H0 [(h_0, oX6 h_0_of h_0_kept h_0_column h_0_size h_0_hidden h_0_cell h_0_home h_0_waste h_0_stock h_0_past h_0_start h_0_known h_0_sorted h_0_row h_0_best I_0), (h_0_of, eI cI 9 (I_0 1)), (h_0_kept, eI cI 9 (I_0 2)), (h_0_column, eJ cJ 5 (L_0 0)), (h_0_size, eI cI 5 (I_0 3)), (h_0_hidden, eI cI 5 (I_0 4)), (h_0_cell, eI cI 2 (I_0 5)), (h_0_home, eI cI 4 (I_0 6)), (h_0_waste, eI cI 8 (I_0 7)), (h_0_stock, eI cI 8 (I_0 8)), (h_0_past, eJ cJ 1616 (L_0 1)), (h_0_start, eJ cJ 8 (L_0 2)), (h_0_known, eJ cJ 3216 (L_0 3)), (h_0_sorted, eJ cJ 3216 (L_0 4)), (h_0_row, eI cI 16 (I_0 9)), (h_0_best, eJ cJ 8 (L_0 5))] H locs → lv_has ls 2 [(0, .ref h_0), (1, .int v1)] → F_X6_clear_s2  K2 I_0 L_0 v1 = some (r_I_0, r_L_0) → W p l e ({ frames := 0, cells := 0, slots := 0, locals := 0 } : Room) s m args below meth c H locs 0 0 Q (F0 m 2 ls []) := by
    intro K2 hK2 I_0 L_0 v1 H locs ls hS hl hF
    unfold F_X6_clear_s2 at hF
    refine lv_iload_n hx hb dX6_clear_2 rfl (lv_at hl 1 rfl) ?_
    refine lv_iconst (v := (nI 5)) hx hb dX6_clear_3 (by decide) ?_
    refine lv_icmp_ge (tgt := 34) hx hb dX6_clear_4 (by decide) (fun c_11 => ?_) (fun c_11 => ?_)
    · replace hF := ifp hF c_11
      refine lv_iconst (v := (nI 0)) hx hb dX6_clear_34 (by decide) ?_
      refine lv_istore_n (lv' := [(1, .int (nI 0)), (0, .ref h_0)]) hx hb dX6_clear_35 rfl hl (by decide) rfl (fun ls hl => ?_)
      exact L36 FU I_0 L_0 (nI 0) _ _ _ hS (lv_sub hl [1, 0] rfl) hF
    · replace hF := ifn hF c_11
      refine lv_aload_n hx hb dX6_clear_7 rfl (lv_at hl 0 rfl) ?_
      refine r_get hx hb hts inX6 hown hK hS 0 15 rfl rfl (by decide) q6 rfl dX6_clear_8 ?_
      refine lv_iload_n hx hb dX6_clear_11 rfl (lv_at hl 1 rfl) ?_
      refine lv_lconst (v := (lN 0)) hx hb dX6_clear_12 (by decide) ?_
      replace hF := wrJ_e hF
      obtain ⟨hi13, L_0u12, eL_0u12, hF⟩ := hF
      refine r_last (w2 := [(h_0, oX6 h_0_of h_0_kept h_0_column h_0_size h_0_hidden h_0_cell h_0_home h_0_waste h_0_stock h_0_past h_0_start h_0_known h_0_sorted h_0_row h_0_best I_0), (h_0_of, eI cI 9 (I_0 1)), (h_0_kept, eI cI 9 (I_0 2)), (h_0_column, eJ cJ 5 (L_0u12 0)), (h_0_size, eI cI 5 (I_0 3)), (h_0_hidden, eI cI 5 (I_0 4)), (h_0_cell, eI cI 2 (I_0 5)), (h_0_home, eI cI 4 (I_0 6)), (h_0_waste, eI cI 8 (I_0 7)), (h_0_stock, eI cI 8 (I_0 8)), (h_0_past, eJ cJ 1616 (L_0u12 1)), (h_0_start, eJ cJ 8 (L_0u12 2)), (h_0_known, eJ cJ 3216 (L_0u12 3)), (h_0_sorted, eJ cJ 3216 (L_0u12 4)), (h_0_row, eI cI 16 (I_0 9)), (h_0_best, eJ cJ 8 (L_0u12 5))]) hx hb hK hS 3 rfl rfl hi13 dX6_clear_13 (by rw [eL_0u12]; rfl) (fun H locs hS => ?_)
      refine lv_aload_n hx hb dX6_clear_14 rfl (lv_at hl 0 rfl) ?_
      refine r_get hx hb hts inX6 hown hK hS 0 16 rfl rfl (by decide) q7 rfl dX6_clear_15 ?_
      refine lv_iload_n hx hb dX6_clear_18 rfl (lv_at hl 1 rfl) ?_
      refine lv_iconst (v := (nI 0)) hx hb dX6_clear_19 (by decide) ?_
      replace hF := wrA_e hF
      obtain ⟨hi15, I_0u14, eI_0u14, hF⟩ := hF
      refine r_iast (w2 := [(h_0, oX6 h_0_of h_0_kept h_0_column h_0_size h_0_hidden h_0_cell h_0_home h_0_waste h_0_stock h_0_past h_0_start h_0_known h_0_sorted h_0_row h_0_best I_0u14), (h_0_of, eI cI 9 (I_0u14 1)), (h_0_kept, eI cI 9 (I_0u14 2)), (h_0_column, eJ cJ 5 (L_0u12 0)), (h_0_size, eI cI 5 (I_0u14 3)), (h_0_hidden, eI cI 5 (I_0u14 4)), (h_0_cell, eI cI 2 (I_0u14 5)), (h_0_home, eI cI 4 (I_0u14 6)), (h_0_waste, eI cI 8 (I_0u14 7)), (h_0_stock, eI cI 8 (I_0u14 8)), (h_0_past, eJ cJ 1616 (L_0u12 1)), (h_0_start, eJ cJ 8 (L_0u12 2)), (h_0_known, eJ cJ 3216 (L_0u12 3)), (h_0_sorted, eJ cJ 3216 (L_0u12 4)), (h_0_row, eI cI 16 (I_0u14 9)), (h_0_best, eJ cJ 8 (L_0u12 5))]) hx hb hK hS 4 rfl rfl hi15 dX6_clear_20 (by rw [eI_0u14]; rfl) (fun H locs hS => ?_)
      refine lv_aload_n hx hb dX6_clear_21 rfl (lv_at hl 0 rfl) ?_
      refine r_get hx hb hts inX6 hown hK hS 0 17 rfl rfl (by decide) q8 rfl dX6_clear_22 ?_
      refine lv_iload_n hx hb dX6_clear_25 rfl (lv_at hl 1 rfl) ?_
      refine lv_iconst (v := (nI 0)) hx hb dX6_clear_26 (by decide) ?_
      replace hF := wrA_e hF
      obtain ⟨hi17, I_0u16, eI_0u16, hF⟩ := hF
      refine r_iast (w2 := [(h_0, oX6 h_0_of h_0_kept h_0_column h_0_size h_0_hidden h_0_cell h_0_home h_0_waste h_0_stock h_0_past h_0_start h_0_known h_0_sorted h_0_row h_0_best I_0u16), (h_0_of, eI cI 9 (I_0u16 1)), (h_0_kept, eI cI 9 (I_0u16 2)), (h_0_column, eJ cJ 5 (L_0u12 0)), (h_0_size, eI cI 5 (I_0u16 3)), (h_0_hidden, eI cI 5 (I_0u16 4)), (h_0_cell, eI cI 2 (I_0u16 5)), (h_0_home, eI cI 4 (I_0u16 6)), (h_0_waste, eI cI 8 (I_0u16 7)), (h_0_stock, eI cI 8 (I_0u16 8)), (h_0_past, eJ cJ 1616 (L_0u12 1)), (h_0_start, eJ cJ 8 (L_0u12 2)), (h_0_known, eJ cJ 3216 (L_0u12 3)), (h_0_sorted, eJ cJ 3216 (L_0u12 4)), (h_0_row, eI cI 16 (I_0u16 9)), (h_0_best, eJ cJ 8 (L_0u12 5))]) hx hb hK hS 5 rfl rfl hi17 dX6_clear_27 (by rw [eI_0u16]; rfl) (fun H locs hS => ?_)
      refine lv_iinc (v := v1 + (nI 1)) (lv' := [(1, .int (v1 + (nI 1))), (0, .ref h_0)]) hx hb dX6_clear_28 hl (k := 1) rfl rfl (by decide) rfl (fun ls hl => ?_)
      refine lv_goto (tgt := 2) hx hb dX6_clear_31 (by decide) ?_
      exact hK2 I_0u16 L_0u12 (v1 + (nI 1)) _ _ _ hS (lv_sub hl [1, 0] rfl) hF
  have L2 : ∀  (n : Nat) (I_0 : Nat → Nat → Int32) (L_0 : Nat → Nat → Int64) (v1 : Int32) (H : Heap) (locs : List Loc) (ls : Array Slot), HS D A H0 [(h_0, oX6 h_0_of h_0_kept h_0_column h_0_size h_0_hidden h_0_cell h_0_home h_0_waste h_0_stock h_0_past h_0_start h_0_known h_0_sorted h_0_row h_0_best I_0), (h_0_of, eI cI 9 (I_0 1)), (h_0_kept, eI cI 9 (I_0 2)), (h_0_column, eJ cJ 5 (L_0 0)), (h_0_size, eI cI 5 (I_0 3)), (h_0_hidden, eI cI 5 (I_0 4)), (h_0_cell, eI cI 2 (I_0 5)), (h_0_home, eI cI 4 (I_0 6)), (h_0_waste, eI cI 8 (I_0 7)), (h_0_stock, eI cI 8 (I_0 8)), (h_0_past, eJ cJ 1616 (L_0 1)), (h_0_start, eJ cJ 8 (L_0 2)), (h_0_known, eJ cJ 3216 (L_0 3)), (h_0_sorted, eJ cJ 3216 (L_0 4)), (h_0_row, eI cI 16 (I_0 9)), (h_0_best, eJ cJ 8 (L_0 5))] H locs → lv_has ls 2 [(0, .ref h_0), (1, .int v1)] → F_X6_clear_L2   n I_0 L_0 v1 = some (r_I_0, r_L_0) → W p l e ({ frames := 0, cells := 0, slots := 0, locals := 0 } : Room) s m args below meth c H locs 0 0 Q (F0 m 2 ls []) := by
    intro  n
    induction n with
    | zero => intro I_0 L_0 v1 H locs ls hS hl hF; exact nomatch (show (none : Option ((Nat → Nat → Int32) × (Nat → Nat → Int64))) = some _ from hF)
    | succ n ih => intro I_0 L_0 v1 H locs ls hS hl hF; exact S2  _ ih I_0 L_0 v1 H locs ls hS hl hF
  unfold F_X6_clear at hF
  refine lv_iconst (v := (nI 0)) hx hb dX6_clear_0 (by decide) ?_
  refine lv_istore_n (lv' := [(1, .int (nI 0)), (0, .ref h_0)]) hx hb dX6_clear_1 rfl hl (by decide) rfl (fun ls hl => ?_)
  exact L2 FU I_0 L_0 (nI 0) _ _ _ hS (lv_sub hl [1, 0] rfl) hF
set_option maxHeartbeats 4000000 in
set_option maxRecDepth 100000 in
theorem c_X6_push (l : Launch) (D : va_G) (cI cJ : ClassId) (h_0 h_0_of h_0_kept h_0_column h_0_size h_0_hidden h_0_cell h_0_home h_0_waste h_0_stock h_0_past h_0_start h_0_known h_0_sorted h_0_row h_0_best : Nat) (I_0 : Nat → Nat → Int32) (L_0 : Nat → Nat → Int64) (v1 : Int32) (v2 : Int32) (r_I_0 : Nat → Nat → Int32) (r_L_0 : Nat → Nat → Int64) (hF : F_X6_push I_0 L_0 v1 v2 = some (r_I_0, r_L_0)) : CtV l D [(cI, .int), (cJ, .long)] yX6_push wtX6_push ({ frames := 0, cells := 0, slots := 0, locals := 0 } : Room) [.ref h_0, .int v1, .int v2] [(h_0, oX6 h_0_of h_0_kept h_0_column h_0_size h_0_hidden h_0_cell h_0_home h_0_waste h_0_stock h_0_past h_0_start h_0_known h_0_sorted h_0_row h_0_best I_0), (h_0_of, eI cI 9 (I_0 1)), (h_0_kept, eI cI 9 (I_0 2)), (h_0_column, eJ cJ 5 (L_0 0)), (h_0_size, eI cI 5 (I_0 3)), (h_0_hidden, eI cI 5 (I_0 4)), (h_0_cell, eI cI 2 (I_0 5)), (h_0_home, eI cI 4 (I_0 6)), (h_0_waste, eI cI 8 (I_0 7)), (h_0_stock, eI cI 8 (I_0 8)), (h_0_past, eJ cJ 1616 (L_0 1)), (h_0_start, eJ cJ 8 (L_0 2)), (h_0_known, eJ cJ 3216 (L_0 3)), (h_0_sorted, eJ cJ 3216 (L_0 4)), (h_0_row, eI cI 16 (I_0 9)), (h_0_best, eJ cJ 8 (L_0 5))] [(h_0, oX6 h_0_of h_0_kept h_0_column h_0_size h_0_hidden h_0_cell h_0_home h_0_waste h_0_stock h_0_past h_0_start h_0_known h_0_sorted h_0_row h_0_best r_I_0), (h_0_of, eI cI 9 (r_I_0 1)), (h_0_kept, eI cI 9 (r_I_0 2)), (h_0_column, eJ cJ 5 (r_L_0 0)), (h_0_size, eI cI 5 (r_I_0 3)), (h_0_hidden, eI cI 5 (r_I_0 4)), (h_0_cell, eI cI 2 (r_I_0 5)), (h_0_home, eI cI 4 (r_I_0 6)), (h_0_waste, eI cI 8 (r_I_0 7)), (h_0_stock, eI cI 8 (r_I_0 8)), (h_0_past, eJ cJ 1616 (r_L_0 1)), (h_0_start, eJ cJ 8 (r_L_0 2)), (h_0_known, eJ cJ 3216 (r_L_0 3)), (h_0_sorted, eJ cJ 3216 (r_L_0 4)), (h_0_row, eI cI 16 (r_I_0 9)), (h_0_best, eJ cJ 8 (r_L_0 5))] := by
  refine CtV.of (cc := cX6_push) (maxL := 3) (by decide) rfl (Nat.le_of_ble_eq_true rfl) ?_
  intro p e s m args below meth c A H0 Q ls X hS hl kret
  have hCF := X.1
  obtain ⟨⟨hx, hb, hml, hown, hts⟩, hK, hA⟩ := X
  have hl : lv_has ls 3 [(0, .ref h_0), (1, .int v1), (2, .int v2)] := hl
  have q0 := hts (.fieldLink RX6 32 "PatienceryModel" "column" "[J") (List.mem_cons_of_mem _ mw_163)
  have inX6 : ∀ w ∈ u_ws RX6 TX6 32, w ∈ wtX6_push := fun w h => List.mem_cons_of_mem _ (inlX6 w h)
  have q2 := hts (.fieldLink RX6 36 "PatienceryModel" "size" "[I") (List.mem_cons_of_mem _ mw_164)
  unfold F_X6_push at hF
  refine lv_aload_n hx hb dX6_push_0 rfl (lv_at hl 0 rfl) ?_
  refine r_get hx hb hts inX6 hown hK hS 0 15 rfl rfl (by decide) q0 rfl dX6_push_1 ?_
  refine lv_iload_n hx hb dX6_push_4 rfl (lv_at hl 1 rfl) ?_
  refine lv_dup2_11 hx hb dX6_push_5 rfl rfl ?_
  replace hF := rdA_e hF
  obtain ⟨hi2, x1, ex1, hF⟩ := hF
  refine r_lald hx hb hK hS 3 rfl rfl hi2 dX6_push_6 ex1 ?_
  refine lv_iload_n hx hb dX6_push_7 rfl (lv_at hl 2 rfl) ?_
  refine lv_i2l hx hb dX6_push_8 rfl ?_
  refine lv_iconst (v := (nI 4)) hx hb dX6_push_9 (by decide) ?_
  refine lv_aload_n hx hb dX6_push_10 rfl (lv_at hl 0 rfl) ?_
  refine r_get hx hb hts inX6 hown hK hS 0 16 rfl rfl (by decide) q2 rfl dX6_push_11 ?_
  refine lv_iload_n hx hb dX6_push_14 rfl (lv_at hl 1 rfl) ?_
  replace hF := rdA_e hF
  obtain ⟨hi4, x3, ex3, hF⟩ := hF
  refine r_iald hx hb hK hS 4 rfl rfl hi4 dX6_push_15 ex3 ?_
  refine lv_imul hx hb dX6_push_16 ?_
  refine lv_lshl hx hb dX6_push_17 rfl ?_
  refine lv_lor hx hb dX6_push_18 ?_
  replace hF := wrJ_e hF
  obtain ⟨hi6, L_0u5, eL_0u5, hF⟩ := hF
  refine r_last (w2 := [(h_0, oX6 h_0_of h_0_kept h_0_column h_0_size h_0_hidden h_0_cell h_0_home h_0_waste h_0_stock h_0_past h_0_start h_0_known h_0_sorted h_0_row h_0_best I_0), (h_0_of, eI cI 9 (I_0 1)), (h_0_kept, eI cI 9 (I_0 2)), (h_0_column, eJ cJ 5 (L_0u5 0)), (h_0_size, eI cI 5 (I_0 3)), (h_0_hidden, eI cI 5 (I_0 4)), (h_0_cell, eI cI 2 (I_0 5)), (h_0_home, eI cI 4 (I_0 6)), (h_0_waste, eI cI 8 (I_0 7)), (h_0_stock, eI cI 8 (I_0 8)), (h_0_past, eJ cJ 1616 (L_0u5 1)), (h_0_start, eJ cJ 8 (L_0u5 2)), (h_0_known, eJ cJ 3216 (L_0u5 3)), (h_0_sorted, eJ cJ 3216 (L_0u5 4)), (h_0_row, eI cI 16 (I_0 9)), (h_0_best, eJ cJ 8 (L_0u5 5))]) hx hb hK hS 3 rfl rfl hi6 dX6_push_19 (by rw [eL_0u5]; rfl) (fun H locs hS => ?_)
  refine lv_aload_n hx hb dX6_push_20 rfl (lv_at hl 0 rfl) ?_
  refine r_get hx hb hts inX6 hown hK hS 0 16 rfl rfl (by decide) q2 rfl dX6_push_21 ?_
  refine lv_iload_n hx hb dX6_push_24 rfl (lv_at hl 1 rfl) ?_
  refine lv_dup2_11 hx hb dX6_push_25 rfl rfl ?_
  replace hF := rdA_e hF
  obtain ⟨hi8, x7, ex7, hF⟩ := hF
  refine r_iald hx hb hK hS 4 rfl rfl hi8 dX6_push_26 ex7 ?_
  refine lv_iconst (v := (nI 1)) hx hb dX6_push_27 (by decide) ?_
  refine lv_iadd hx hb dX6_push_28 ?_
  replace hF := wrA_e hF
  obtain ⟨hi10, I_0u9, eI_0u9, hF⟩ := hF
  refine r_iast (w2 := [(h_0, oX6 h_0_of h_0_kept h_0_column h_0_size h_0_hidden h_0_cell h_0_home h_0_waste h_0_stock h_0_past h_0_start h_0_known h_0_sorted h_0_row h_0_best I_0u9), (h_0_of, eI cI 9 (I_0u9 1)), (h_0_kept, eI cI 9 (I_0u9 2)), (h_0_column, eJ cJ 5 (L_0u5 0)), (h_0_size, eI cI 5 (I_0u9 3)), (h_0_hidden, eI cI 5 (I_0u9 4)), (h_0_cell, eI cI 2 (I_0u9 5)), (h_0_home, eI cI 4 (I_0u9 6)), (h_0_waste, eI cI 8 (I_0u9 7)), (h_0_stock, eI cI 8 (I_0u9 8)), (h_0_past, eJ cJ 1616 (L_0u5 1)), (h_0_start, eJ cJ 8 (L_0u5 2)), (h_0_known, eJ cJ 3216 (L_0u5 3)), (h_0_sorted, eJ cJ 3216 (L_0u5 4)), (h_0_row, eI cI 16 (I_0u9 9)), (h_0_best, eJ cJ 8 (L_0u5 5))]) hx hb hK hS 4 rfl rfl hi10 dX6_push_29 (by rw [eI_0u9]; rfl) (fun H locs hS => ?_)
  have e9_0 := Option.some.inj hF
  obtain ⟨f9_0, e9_1⟩ := Prod.mk.inj e9_0
  subst f9_0
  subst e9_1
  exact kret _ _ _ _ hS dX6_push_30
set_option maxHeartbeats 4000000 in
set_option maxRecDepth 100000 in
theorem c_X6_lay (l : Launch) (D : va_G) (cI cJ : ClassId) (h_0 h_0_of h_0_kept h_0_column h_0_size h_0_hidden h_0_cell h_0_home h_0_waste h_0_stock h_0_past h_0_start h_0_known h_0_sorted h_0_row h_0_best : Nat) (I_0 : Nat → Nat → Int32) (L_0 : Nat → Nat → Int64) (v1 : Int32) (v2 : Int32) (r_I_0 : Nat → Nat → Int32) (r_L_0 : Nat → Nat → Int64) (hF : F_X6_lay I_0 L_0 v1 v2 = some (r_I_0, r_L_0)) : CtV l D [(cI, .int), (cJ, .long)] yX6_lay wtX6_lay ({ frames := 1, cells := 0, slots := 0, locals := 22 } : Room) [.ref h_0, .int v1, .int v2] [(h_0, oX6 h_0_of h_0_kept h_0_column h_0_size h_0_hidden h_0_cell h_0_home h_0_waste h_0_stock h_0_past h_0_start h_0_known h_0_sorted h_0_row h_0_best I_0), (h_0_of, eI cI 9 (I_0 1)), (h_0_kept, eI cI 9 (I_0 2)), (h_0_column, eJ cJ 5 (L_0 0)), (h_0_size, eI cI 5 (I_0 3)), (h_0_hidden, eI cI 5 (I_0 4)), (h_0_cell, eI cI 2 (I_0 5)), (h_0_home, eI cI 4 (I_0 6)), (h_0_waste, eI cI 8 (I_0 7)), (h_0_stock, eI cI 8 (I_0 8)), (h_0_past, eJ cJ 1616 (L_0 1)), (h_0_start, eJ cJ 8 (L_0 2)), (h_0_known, eJ cJ 3216 (L_0 3)), (h_0_sorted, eJ cJ 3216 (L_0 4)), (h_0_row, eI cI 16 (I_0 9)), (h_0_best, eJ cJ 8 (L_0 5))] [(h_0, oX6 h_0_of h_0_kept h_0_column h_0_size h_0_hidden h_0_cell h_0_home h_0_waste h_0_stock h_0_past h_0_start h_0_known h_0_sorted h_0_row h_0_best r_I_0), (h_0_of, eI cI 9 (r_I_0 1)), (h_0_kept, eI cI 9 (r_I_0 2)), (h_0_column, eJ cJ 5 (r_L_0 0)), (h_0_size, eI cI 5 (r_I_0 3)), (h_0_hidden, eI cI 5 (r_I_0 4)), (h_0_cell, eI cI 2 (r_I_0 5)), (h_0_home, eI cI 4 (r_I_0 6)), (h_0_waste, eI cI 8 (r_I_0 7)), (h_0_stock, eI cI 8 (r_I_0 8)), (h_0_past, eJ cJ 1616 (r_L_0 1)), (h_0_start, eJ cJ 8 (r_L_0 2)), (h_0_known, eJ cJ 3216 (r_L_0 3)), (h_0_sorted, eJ cJ 3216 (r_L_0 4)), (h_0_row, eI cI 16 (r_I_0 9)), (h_0_best, eJ cJ 8 (r_L_0 5))] := by
  refine CtV.of (cc := cX6_lay) (maxL := 10) (by decide) rfl (Nat.le_of_ble_eq_true rfl) ?_
  intro p e s m args below meth c A H0 Q ls X hS hl kret
  have hCF := X.1
  obtain ⟨⟨hx, hb, hml, hown, hts⟩, hK, hA⟩ := X
  have hl : lv_has ls 10 [(0, .ref h_0), (1, .int v1), (2, .int v2)] := hl
  have q0 := hts (.fieldLink RX6 25 "PatienceryModel" "of" "[I") (List.mem_cons_of_mem _ mw_161)
  have inX6 : ∀ w ∈ u_ws RX6 TX6 32, w ∈ wtX6_lay := fun w h => List.mem_cons_of_mem _ (inlX6 w h)
  have q2 := hts (.fieldLink RX6 39 "PatienceryModel" "hidden" "[I") (List.mem_cons_of_mem _ mw_165)
  have q3 := hts (.fieldLink RX6 36 "PatienceryModel" "size" "[I") (List.mem_cons_of_mem _ mw_164)
  have q4 := hts (.constantLong RX6 133 (65536)) (List.mem_cons_of_mem _ mw_188)
  have q5 := hts (.constantLong RX6 135 (32768)) (List.mem_cons_of_mem _ mw_189)
  have q6 := hts (.fieldLink RX6 66 "PatienceryModel" "row" "[I") (List.mem_cons_of_mem _ mw_174)
  have q7 := hts (.fieldLink RX6 51 "PatienceryModel" "stock" "[I") (List.mem_cons_of_mem _ mw_169)
  have q8 := hts (.fieldLink RX6 120 "PatienceryModel" "left" "I") (List.mem_cons_of_mem _ mw_190)
  have B232 : ∀ (K181 : (Nat → Nat → Int32) → (Nat → Nat → Int64) → Int32 → Option ((Nat → Nat → Int32) × (Nat → Nat → Int64))) (_ : ∀ (I_0 : Nat → Nat → Int32) (L_0 : Nat → Nat → Int64) (v7 : Int32) (H : Heap) (locs : List Loc) (ls : Array Slot), HS D A H0 [(h_0, oX6 h_0_of h_0_kept h_0_column h_0_size h_0_hidden h_0_cell h_0_home h_0_waste h_0_stock h_0_past h_0_start h_0_known h_0_sorted h_0_row h_0_best I_0), (h_0_of, eI cI 9 (I_0 1)), (h_0_kept, eI cI 9 (I_0 2)), (h_0_column, eJ cJ 5 (L_0 0)), (h_0_size, eI cI 5 (I_0 3)), (h_0_hidden, eI cI 5 (I_0 4)), (h_0_cell, eI cI 2 (I_0 5)), (h_0_home, eI cI 4 (I_0 6)), (h_0_waste, eI cI 8 (I_0 7)), (h_0_stock, eI cI 8 (I_0 8)), (h_0_past, eJ cJ 1616 (L_0 1)), (h_0_start, eJ cJ 8 (L_0 2)), (h_0_known, eJ cJ 3216 (L_0 3)), (h_0_sorted, eJ cJ 3216 (L_0 4)), (h_0_row, eI cI 16 (I_0 9)), (h_0_best, eJ cJ 8 (L_0 5))] H locs → lv_has ls 10 [(0, .ref h_0), (7, .int v7)] → K181 I_0 L_0 v7 = some (r_I_0, r_L_0) → W p l e ({ frames := 1, cells := 0, slots := 0, locals := 22 } : Room) s m args below meth c H locs 0 0 Q (F0 m 181 ls [])) (I_0 : Nat → Nat → Int32) (L_0 : Nat → Nat → Int64) (v7 : Int32) (s1 : Int32) (s2 : Int32) (H : Heap) (locs : List Loc) (ls : Array Slot), HS D A H0 [(h_0, oX6 h_0_of h_0_kept h_0_column h_0_size h_0_hidden h_0_cell h_0_home h_0_waste h_0_stock h_0_past h_0_start h_0_known h_0_sorted h_0_row h_0_best I_0), (h_0_of, eI cI 9 (I_0 1)), (h_0_kept, eI cI 9 (I_0 2)), (h_0_column, eJ cJ 5 (L_0 0)), (h_0_size, eI cI 5 (I_0 3)), (h_0_hidden, eI cI 5 (I_0 4)), (h_0_cell, eI cI 2 (I_0 5)), (h_0_home, eI cI 4 (I_0 6)), (h_0_waste, eI cI 8 (I_0 7)), (h_0_stock, eI cI 8 (I_0 8)), (h_0_past, eJ cJ 1616 (L_0 1)), (h_0_start, eJ cJ 8 (L_0 2)), (h_0_known, eJ cJ 3216 (L_0 3)), (h_0_sorted, eJ cJ 3216 (L_0 4)), (h_0_row, eI cI 16 (I_0 9)), (h_0_best, eJ cJ 8 (L_0 5))] H locs → lv_has ls 10 [(0, .ref h_0), (7, .int v7)] → F_X6_lay_b232  K181 I_0 L_0 v7 s1 s2 = some (r_I_0, r_L_0) → W p l e ({ frames := 1, cells := 0, slots := 0, locals := 22 } : Room) s m args below meth c H locs 0 0 Q (F0 m 232 ls [.int s2, .int s1, .ref h_0_hidden]) := by
    intro K181 hK181 I_0 L_0 v7 s1 s2 H locs ls hS hl hF
    unfold F_X6_lay_b232 at hF
    replace hF := wrA_e hF
    obtain ⟨hi2, I_0u1, eI_0u1, hF⟩ := hF
    refine r_iast (w2 := [(h_0, oX6 h_0_of h_0_kept h_0_column h_0_size h_0_hidden h_0_cell h_0_home h_0_waste h_0_stock h_0_past h_0_start h_0_known h_0_sorted h_0_row h_0_best I_0u1), (h_0_of, eI cI 9 (I_0u1 1)), (h_0_kept, eI cI 9 (I_0u1 2)), (h_0_column, eJ cJ 5 (L_0 0)), (h_0_size, eI cI 5 (I_0u1 3)), (h_0_hidden, eI cI 5 (I_0u1 4)), (h_0_cell, eI cI 2 (I_0u1 5)), (h_0_home, eI cI 4 (I_0u1 6)), (h_0_waste, eI cI 8 (I_0u1 7)), (h_0_stock, eI cI 8 (I_0u1 8)), (h_0_past, eJ cJ 1616 (L_0 1)), (h_0_start, eJ cJ 8 (L_0 2)), (h_0_known, eJ cJ 3216 (L_0 3)), (h_0_sorted, eJ cJ 3216 (L_0 4)), (h_0_row, eI cI 16 (I_0u1 9)), (h_0_best, eJ cJ 8 (L_0 5))]) hx hb hK hS 5 rfl rfl hi2 dX6_lay_232 (by rw [eI_0u1]; rfl) (fun H locs hS => ?_)
    refine lv_iinc (v := v7 + (nI 1)) (lv' := [(7, .int (v7 + (nI 1))), (0, .ref h_0)]) hx hb dX6_lay_233 hl (k := 1) rfl rfl (by decide) rfl (fun ls hl => ?_)
    refine lv_goto (tgt := 181) hx hb dX6_lay_236 (by decide) ?_
    exact hK181 I_0u1 L_0 (v7 + (nI 1)) _ _ _ hS (lv_sub hl [1, 0] rfl) hF
  have S181 : ∀ (K181 : (Nat → Nat → Int32) → (Nat → Nat → Int64) → Int32 → Option ((Nat → Nat → Int32) × (Nat → Nat → Int64))) (_ : ∀ (I_0 : Nat → Nat → Int32) (L_0 : Nat → Nat → Int64) (v7 : Int32) (H : Heap) (locs : List Loc) (ls : Array Slot), HS D A H0 [(h_0, oX6 h_0_of h_0_kept h_0_column h_0_size h_0_hidden h_0_cell h_0_home h_0_waste h_0_stock h_0_past h_0_start h_0_known h_0_sorted h_0_row h_0_best I_0), (h_0_of, eI cI 9 (I_0 1)), (h_0_kept, eI cI 9 (I_0 2)), (h_0_column, eJ cJ 5 (L_0 0)), (h_0_size, eI cI 5 (I_0 3)), (h_0_hidden, eI cI 5 (I_0 4)), (h_0_cell, eI cI 2 (I_0 5)), (h_0_home, eI cI 4 (I_0 6)), (h_0_waste, eI cI 8 (I_0 7)), (h_0_stock, eI cI 8 (I_0 8)), (h_0_past, eJ cJ 1616 (L_0 1)), (h_0_start, eJ cJ 8 (L_0 2)), (h_0_known, eJ cJ 3216 (L_0 3)), (h_0_sorted, eJ cJ 3216 (L_0 4)), (h_0_row, eI cI 16 (I_0 9)), (h_0_best, eJ cJ 8 (L_0 5))] H locs → lv_has ls 10 [(0, .ref h_0), (7, .int v7)] → K181 I_0 L_0 v7 = some (r_I_0, r_L_0) → W p l e ({ frames := 1, cells := 0, slots := 0, locals := 22 } : Room) s m args below meth c H locs 0 0 Q (F0 m 181 ls [])) (I_0 : Nat → Nat → Int32) (L_0 : Nat → Nat → Int64) (v7 : Int32) (H : Heap) (locs : List Loc) (ls : Array Slot), HS D A H0 [(h_0, oX6 h_0_of h_0_kept h_0_column h_0_size h_0_hidden h_0_cell h_0_home h_0_waste h_0_stock h_0_past h_0_start h_0_known h_0_sorted h_0_row h_0_best I_0), (h_0_of, eI cI 9 (I_0 1)), (h_0_kept, eI cI 9 (I_0 2)), (h_0_column, eJ cJ 5 (L_0 0)), (h_0_size, eI cI 5 (I_0 3)), (h_0_hidden, eI cI 5 (I_0 4)), (h_0_cell, eI cI 2 (I_0 5)), (h_0_home, eI cI 4 (I_0 6)), (h_0_waste, eI cI 8 (I_0 7)), (h_0_stock, eI cI 8 (I_0 8)), (h_0_past, eJ cJ 1616 (L_0 1)), (h_0_start, eJ cJ 8 (L_0 2)), (h_0_known, eJ cJ 3216 (L_0 3)), (h_0_sorted, eJ cJ 3216 (L_0 4)), (h_0_row, eI cI 16 (I_0 9)), (h_0_best, eJ cJ 8 (L_0 5))] H locs → lv_has ls 10 [(0, .ref h_0), (7, .int v7)] → F_X6_lay_s181  K181 I_0 L_0 v7 = some (r_I_0, r_L_0) → W p l e ({ frames := 1, cells := 0, slots := 0, locals := 22 } : Room) s m args below meth c H locs 0 0 Q (F0 m 181 ls []) := by
    intro K181 hK181 I_0 L_0 v7 H locs ls hS hl hF
    unfold F_X6_lay_s181 at hF
    refine lv_iload hx hb dX6_lay_181 (lv_at hl 1 rfl) ?_
    refine lv_aload_n hx hb dX6_lay_183 rfl (lv_at hl 0 rfl) ?_
    refine r_get hx hb hts inX6 hown hK hS 0 10 rfl rfl (by decide) q0 rfl dX6_lay_184 ?_
    refine lv_iconst (v := (nI 2)) hx hb dX6_lay_187 (by decide) ?_
    replace hF := rdA_e hF
    obtain ⟨hi4, x3, ex3, hF⟩ := hF
    refine r_iald hx hb hK hS 1 rfl rfl hi4 dX6_lay_188 ex3 ?_
    refine lv_icmp_ge (tgt := 239) hx hb dX6_lay_189 (by decide) (fun c_5 => ?_) (fun c_5 => ?_)
    · replace hF := ifp hF c_5
      have e9_0 := Option.some.inj hF
      obtain ⟨f9_0, e9_1⟩ := Prod.mk.inj e9_0
      subst f9_0
      subst e9_1
      exact kret _ _ _ _ hS dX6_lay_239
    · replace hF := ifn hF c_5
      refine lv_aload_n hx hb dX6_lay_192 rfl (lv_at hl 0 rfl) ?_
      refine r_get hx hb hts inX6 hown hK hS 0 17 rfl rfl (by decide) q2 rfl dX6_lay_193 ?_
      refine lv_iload hx hb dX6_lay_196 (lv_at hl 1 rfl) ?_
      refine lv_aload_n hx hb dX6_lay_198 rfl (lv_at hl 0 rfl) ?_
      refine r_get hx hb hts inX6 hown hK hS 0 10 rfl rfl (by decide) q0 rfl dX6_lay_199 ?_
      refine lv_bipush (v := (nI 8)) hx hb dX6_lay_202 (by decide) ?_
      replace hF := rdA_e hF
      obtain ⟨hi7, x6, ex6, hF⟩ := hF
      refine r_iald hx hb hK hS 1 rfl rfl hi7 dX6_lay_204 ex6 ?_
      refine lv_iconst (v := (nI 1)) hx hb dX6_lay_205 (by decide) ?_
      refine lv_icmp_ne (tgt := 231) hx hb dX6_lay_206 (by decide) (fun c_8 => ?_) (fun c_8 => ?_)
      · replace hF := ifn hF c_8
        refine lv_iconst (v := (nI 0)) hx hb dX6_lay_231 (by decide) ?_
        exact B232 K181 hK181 I_0 L_0 v7 v7 (nI 0) _ _ _ hS (lv_sub hl [0, 1] rfl) hF
      · replace hF := ifp hF c_8
        refine lv_aload_n hx hb dX6_lay_209 rfl (lv_at hl 0 rfl) ?_
        refine r_get hx hb hts inX6 hown hK hS 0 16 rfl rfl (by decide) q3 rfl dX6_lay_210 ?_
        refine lv_iload hx hb dX6_lay_213 (lv_at hl 1 rfl) ?_
        replace hF := rdA_e hF
        obtain ⟨hi10, x9, ex9, hF⟩ := hF
        refine r_iald hx hb hK hS 4 rfl rfl hi10 dX6_lay_215 ex9 ?_
        refine lv_if_le (tgt := 231) hx hb dX6_lay_216 (by decide) (fun c_11 => ?_) (fun c_11 => ?_)
        · replace hF := ifp hF c_11
          refine lv_iconst (v := (nI 0)) hx hb dX6_lay_231 (by decide) ?_
          exact B232 K181 hK181 I_0 L_0 v7 v7 (nI 0) _ _ _ hS (lv_sub hl [0, 1] rfl) hF
        · replace hF := ifn hF c_11
          refine lv_aload_n hx hb dX6_lay_219 rfl (lv_at hl 0 rfl) ?_
          refine r_get hx hb hts inX6 hown hK hS 0 16 rfl rfl (by decide) q3 rfl dX6_lay_220 ?_
          refine lv_iload hx hb dX6_lay_223 (lv_at hl 1 rfl) ?_
          replace hF := rdA_e hF
          obtain ⟨hi13, x12, ex12, hF⟩ := hF
          refine r_iald hx hb hK hS 4 rfl rfl hi13 dX6_lay_225 ex12 ?_
          refine lv_iconst (v := (nI 1)) hx hb dX6_lay_226 (by decide) ?_
          refine lv_isub hx hb dX6_lay_227 ?_
          refine lv_goto (tgt := 232) hx hb dX6_lay_228 (by decide) ?_
          exact B232 K181 hK181 I_0 L_0 v7 v7 (x12 - (nI 1)) _ _ _ hS (lv_sub hl [0, 1] rfl) hF
  have L181 : ∀  (n : Nat) (I_0 : Nat → Nat → Int32) (L_0 : Nat → Nat → Int64) (v7 : Int32) (H : Heap) (locs : List Loc) (ls : Array Slot), HS D A H0 [(h_0, oX6 h_0_of h_0_kept h_0_column h_0_size h_0_hidden h_0_cell h_0_home h_0_waste h_0_stock h_0_past h_0_start h_0_known h_0_sorted h_0_row h_0_best I_0), (h_0_of, eI cI 9 (I_0 1)), (h_0_kept, eI cI 9 (I_0 2)), (h_0_column, eJ cJ 5 (L_0 0)), (h_0_size, eI cI 5 (I_0 3)), (h_0_hidden, eI cI 5 (I_0 4)), (h_0_cell, eI cI 2 (I_0 5)), (h_0_home, eI cI 4 (I_0 6)), (h_0_waste, eI cI 8 (I_0 7)), (h_0_stock, eI cI 8 (I_0 8)), (h_0_past, eJ cJ 1616 (L_0 1)), (h_0_start, eJ cJ 8 (L_0 2)), (h_0_known, eJ cJ 3216 (L_0 3)), (h_0_sorted, eJ cJ 3216 (L_0 4)), (h_0_row, eI cI 16 (I_0 9)), (h_0_best, eJ cJ 8 (L_0 5))] H locs → lv_has ls 10 [(0, .ref h_0), (7, .int v7)] → F_X6_lay_L181   n I_0 L_0 v7 = some (r_I_0, r_L_0) → W p l e ({ frames := 1, cells := 0, slots := 0, locals := 22 } : Room) s m args below meth c H locs 0 0 Q (F0 m 181 ls []) := by
    intro  n
    induction n with
    | zero => intro I_0 L_0 v7 H locs ls hS hl hF; exact nomatch (show (none : Option ((Nat → Nat → Int32) × (Nat → Nat → Int64))) = some _ from hF)
    | succ n ih => intro I_0 L_0 v7 H locs ls hS hl hF; exact S181  _ ih I_0 L_0 v7 H locs ls hS hl hF
  have S60 : ∀ (K60 : (Nat → Nat → Int32) → (Nat → Nat → Int64) → Int32 → Int32 → Int64 → Int32 → Int32 → Option ((Nat → Nat → Int32) × (Nat → Nat → Int64))) (_ : ∀ (I_0 : Nat → Nat → Int32) (L_0 : Nat → Nat → Int64) (v1 : Int32) (v3 : Int32) (v4 : Int64) (v6 : Int32) (v7 : Int32) (H : Heap) (locs : List Loc) (ls : Array Slot), HS D A H0 [(h_0, oX6 h_0_of h_0_kept h_0_column h_0_size h_0_hidden h_0_cell h_0_home h_0_waste h_0_stock h_0_past h_0_start h_0_known h_0_sorted h_0_row h_0_best I_0), (h_0_of, eI cI 9 (I_0 1)), (h_0_kept, eI cI 9 (I_0 2)), (h_0_column, eJ cJ 5 (L_0 0)), (h_0_size, eI cI 5 (I_0 3)), (h_0_hidden, eI cI 5 (I_0 4)), (h_0_cell, eI cI 2 (I_0 5)), (h_0_home, eI cI 4 (I_0 6)), (h_0_waste, eI cI 8 (I_0 7)), (h_0_stock, eI cI 8 (I_0 8)), (h_0_past, eJ cJ 1616 (L_0 1)), (h_0_start, eJ cJ 8 (L_0 2)), (h_0_known, eJ cJ 3216 (L_0 3)), (h_0_sorted, eJ cJ 3216 (L_0 4)), (h_0_row, eI cI 16 (I_0 9)), (h_0_best, eJ cJ 8 (L_0 5))] H locs → lv_has ls 10 [(0, .ref h_0), (1, .int v1), (3, .int v3), (4, .long v4), (6, .int v6), (7, .int v7)] → K60 I_0 L_0 v1 v3 v4 v6 v7 = some (r_I_0, r_L_0) → W p l e ({ frames := 1, cells := 0, slots := 0, locals := 22 } : Room) s m args below meth c H locs 0 0 Q (F0 m 60 ls [])) (I_0 : Nat → Nat → Int32) (L_0 : Nat → Nat → Int64) (v1 : Int32) (v3 : Int32) (v4 : Int64) (v6 : Int32) (v7 : Int32) (H : Heap) (locs : List Loc) (ls : Array Slot), HS D A H0 [(h_0, oX6 h_0_of h_0_kept h_0_column h_0_size h_0_hidden h_0_cell h_0_home h_0_waste h_0_stock h_0_past h_0_start h_0_known h_0_sorted h_0_row h_0_best I_0), (h_0_of, eI cI 9 (I_0 1)), (h_0_kept, eI cI 9 (I_0 2)), (h_0_column, eJ cJ 5 (L_0 0)), (h_0_size, eI cI 5 (I_0 3)), (h_0_hidden, eI cI 5 (I_0 4)), (h_0_cell, eI cI 2 (I_0 5)), (h_0_home, eI cI 4 (I_0 6)), (h_0_waste, eI cI 8 (I_0 7)), (h_0_stock, eI cI 8 (I_0 8)), (h_0_past, eJ cJ 1616 (L_0 1)), (h_0_start, eJ cJ 8 (L_0 2)), (h_0_known, eJ cJ 3216 (L_0 3)), (h_0_sorted, eJ cJ 3216 (L_0 4)), (h_0_row, eI cI 16 (I_0 9)), (h_0_best, eJ cJ 8 (L_0 5))] H locs → lv_has ls 10 [(0, .ref h_0), (1, .int v1), (3, .int v3), (4, .long v4), (6, .int v6), (7, .int v7)] → F_X6_lay_s60  K60 I_0 L_0 v1 v3 v4 v6 v7 = some (r_I_0, r_L_0) → W p l e ({ frames := 1, cells := 0, slots := 0, locals := 22 } : Room) s m args below meth c H locs 0 0 Q (F0 m 60 ls []) := by
    intro K60 hK60 I_0 L_0 v1 v3 v4 v6 v7 H locs ls hS hl hF
    unfold F_X6_lay_s60 at hF
    refine lv_iload hx hb dX6_lay_60 (lv_at hl 5 rfl) ?_
    refine lv_iload hx hb dX6_lay_62 (lv_at hl 4 rfl) ?_
    refine lv_aload_n hx hb dX6_lay_64 rfl (lv_at hl 0 rfl) ?_
    refine r_get hx hb hts inX6 hown hK hS 0 10 rfl rfl (by decide) q0 rfl dX6_lay_65 ?_
    refine lv_bipush (v := (nI 6)) hx hb dX6_lay_68 (by decide) ?_
    replace hF := rdA_e hF
    obtain ⟨hi15, x14, ex14, hF⟩ := hF
    refine r_iald hx hb hK hS 1 rfl rfl hi15 dX6_lay_70 ex14 ?_
    refine lv_iadd hx hb dX6_lay_71 ?_
    refine lv_icmp_ge (tgt := 178) hx hb dX6_lay_72 (by decide) (fun c_16 => ?_) (fun c_16 => ?_)
    · replace hF := ifp hF c_16
      refine lv_iconst (v := (nI 0)) hx hb dX6_lay_178 (by decide) ?_
      refine lv_istore (lv' := [(7, .int (nI 0)), (0, .ref h_0), (1, .int v1), (3, .int v3), (4, .long v4), (6, .int v6)]) hx hb dX6_lay_179 hl (by decide) rfl (fun ls hl => ?_)
      exact L181 FU I_0 L_0 (nI 0) _ _ _ hS (lv_sub hl [1, 0] rfl) hF
    · replace hF := ifn hF c_16
      refine lv_iload_n hx hb dX6_lay_75 rfl (lv_at hl 1 rfl) ?_
      refine lv_lload hx hb dX6_lay_76 (lv_at hl 3 rfl) ?_
      replace hF := cal1_e hF
      obtain ⟨x17, hc18, hF⟩ := hF
      refine kS_l (As := [.int v1, .long v4]) (rest := []) (wr := [(h_0, oX6 h_0_of h_0_kept h_0_column h_0_size h_0_hidden h_0_cell h_0_home h_0_waste h_0_stock h_0_past h_0_start h_0_known h_0_sorted h_0_row h_0_best I_0), (h_0_of, eI cI 9 (I_0 1)), (h_0_kept, eI cI 9 (I_0 2)), (h_0_column, eJ cJ 5 (L_0 0)), (h_0_size, eI cI 5 (I_0 3)), (h_0_hidden, eI cI 5 (I_0 4)), (h_0_cell, eI cI 2 (I_0 5)), (h_0_home, eI cI 4 (I_0 6)), (h_0_waste, eI cI 8 (I_0 7)), (h_0_stock, eI cI 8 (I_0 8)), (h_0_past, eJ cJ 1616 (L_0 1)), (h_0_start, eJ cJ 8 (L_0 2)), (h_0_known, eJ cJ 3216 (L_0 3)), (h_0_sorted, eJ cJ 3216 (L_0 4)), (h_0_row, eI cI 16 (I_0 9)), (h_0_best, eJ cJ 8 (L_0 5))]) (w2 := [(h_0, oX6 h_0_of h_0_kept h_0_column h_0_size h_0_hidden h_0_cell h_0_home h_0_waste h_0_stock h_0_past h_0_start h_0_known h_0_sorted h_0_row h_0_best I_0), (h_0_of, eI cI 9 (I_0 1)), (h_0_kept, eI cI 9 (I_0 2)), (h_0_column, eJ cJ 5 (L_0 0)), (h_0_size, eI cI 5 (I_0 3)), (h_0_hidden, eI cI 5 (I_0 4)), (h_0_cell, eI cI 2 (I_0 5)), (h_0_home, eI cI 4 (I_0 6)), (h_0_waste, eI cI 8 (I_0 7)), (h_0_stock, eI cI 8 (I_0 8)), (h_0_past, eJ cJ 1616 (L_0 1)), (h_0_start, eJ cJ 8 (L_0 2)), (h_0_known, eJ cJ 3216 (L_0 3)), (h_0_sorted, eJ cJ 3216 (L_0 4)), (h_0_row, eI cI 16 (I_0 9)), (h_0_best, eJ cJ 8 (L_0 5))]) hCF hK (c_X6_next l D cI cJ v1 v4 x17 hc18) (va_cwS 2 hts (TBL_S mw_197 mw_198 mw_5 mw_199) rfl rfl rfl pmX6_next.2 ⟨Nat.le_of_ble_eq_true rfl, Nat.le_of_ble_eq_true rfl⟩) hS hA [] [0, 1, 2, 3, 4, 5, 6, 7, 8, 9, 10, 11, 12, 13, 14, 15] rfl rfl rfl rfl (by decide) rfl hl.1 rfl (Nat.le_of_ble_eq_true rfl) ⟨Nat.zero_le _, Nat.zero_le _⟩ dX6_lay_78 rfl (fun H locs hS => ?_)
      refine lv_lstore (lv' := [(4, .long x17), (0, .ref h_0), (1, .int v1), (3, .int v3), (6, .int v6), (7, .int v7)]) hx hb dX6_lay_81 hl (by decide) rfl (fun ls hl => ?_)
      refine lv_lload hx hb dX6_lay_83 (lv_at hl 0 rfl) ?_
      refine lv_ldc2 (v := (lN 65536)) hx hb hown q4 dX6_lay_85 ?_
      replace hF := nzL_e hF
      obtain ⟨hne19, hF⟩ := hF
      refine lv_ldiv hx hb dX6_lay_88 hne19 ?_
      refine lv_ldc2 (v := (lN 32768)) hx hb hown q5 dX6_lay_89 ?_
      replace hF := nzL_e hF
      obtain ⟨hne20, hF⟩ := hF
      refine lv_lrem hx hb dX6_lay_92 hne20 ?_
      refine lv_iload_n hx hb dX6_lay_93 rfl (lv_at hl 3 rfl) ?_
      refine lv_i2l hx hb dX6_lay_94 rfl ?_
      replace hF := nzL_e hF
      obtain ⟨hne21, hF⟩ := hF
      refine lv_lrem hx hb dX6_lay_95 hne21 ?_
      refine lv_l2i hx hb dX6_lay_96 rfl ?_
      refine lv_istore (lv' := [(8, .int (((((x17 / (lN 65536)) - (x17 / (lN 65536)) / (lN 32768) * (lN 32768)) - ((x17 / (lN 65536)) - (x17 / (lN 65536)) / (lN 32768) * (lN 32768)) / (v3.toInt64) * (v3.toInt64)) : Int64).toInt32)), (4, .long x17), (0, .ref h_0), (1, .int v1), (3, .int v3), (6, .int v6), (7, .int v7)]) hx hb dX6_lay_97 hl (by decide) rfl (fun ls hl => ?_)
      refine lv_aload_n hx hb dX6_lay_99 rfl (lv_at hl 2 rfl) ?_
      refine r_get hx hb hts inX6 hown hK hS 0 30 rfl rfl (by decide) q6 rfl dX6_lay_100 ?_
      refine lv_iload hx hb dX6_lay_103 (lv_at hl 0 rfl) ?_
      replace hF := rdA_e hF
      obtain ⟨hi23, x22, ex22, hF⟩ := hF
      refine r_iald hx hb hK hS 14 rfl rfl hi23 dX6_lay_105 ex22 ?_
      refine lv_istore (lv' := [(9, .int x22), (8, .int (((((x17 / (lN 65536)) - (x17 / (lN 65536)) / (lN 32768) * (lN 32768)) - ((x17 / (lN 65536)) - (x17 / (lN 65536)) / (lN 32768) * (lN 32768)) / (v3.toInt64) * (v3.toInt64)) : Int64).toInt32)), (4, .long x17), (0, .ref h_0), (1, .int v1), (3, .int v3), (6, .int v6), (7, .int v7)]) hx hb dX6_lay_106 hl (by decide) rfl (fun ls hl => ?_)
      refine lv_aload_n hx hb dX6_lay_108 rfl (lv_at hl 3 rfl) ?_
      refine r_get hx hb hts inX6 hown hK hS 0 30 rfl rfl (by decide) q6 rfl dX6_lay_109 ?_
      refine lv_iload hx hb dX6_lay_112 (lv_at hl 1 rfl) ?_
      refine lv_aload_n hx hb dX6_lay_114 rfl (lv_at hl 3 rfl) ?_
      refine r_get hx hb hts inX6 hown hK hS 0 30 rfl rfl (by decide) q6 rfl dX6_lay_115 ?_
      refine lv_iload_n hx hb dX6_lay_118 rfl (lv_at hl 5 rfl) ?_
      refine lv_iconst (v := (nI 1)) hx hb dX6_lay_119 (by decide) ?_
      refine lv_isub hx hb dX6_lay_120 ?_
      replace hF := rdA_e hF
      obtain ⟨hi25, x24, ex24, hF⟩ := hF
      refine r_iald hx hb hK hS 14 rfl rfl hi25 dX6_lay_121 ex24 ?_
      replace hF := wrA_e hF
      obtain ⟨hi27, I_0u26, eI_0u26, hF⟩ := hF
      refine r_iast (w2 := [(h_0, oX6 h_0_of h_0_kept h_0_column h_0_size h_0_hidden h_0_cell h_0_home h_0_waste h_0_stock h_0_past h_0_start h_0_known h_0_sorted h_0_row h_0_best I_0u26), (h_0_of, eI cI 9 (I_0u26 1)), (h_0_kept, eI cI 9 (I_0u26 2)), (h_0_column, eJ cJ 5 (L_0 0)), (h_0_size, eI cI 5 (I_0u26 3)), (h_0_hidden, eI cI 5 (I_0u26 4)), (h_0_cell, eI cI 2 (I_0u26 5)), (h_0_home, eI cI 4 (I_0u26 6)), (h_0_waste, eI cI 8 (I_0u26 7)), (h_0_stock, eI cI 8 (I_0u26 8)), (h_0_past, eJ cJ 1616 (L_0 1)), (h_0_start, eJ cJ 8 (L_0 2)), (h_0_known, eJ cJ 3216 (L_0 3)), (h_0_sorted, eJ cJ 3216 (L_0 4)), (h_0_row, eI cI 16 (I_0u26 9)), (h_0_best, eJ cJ 8 (L_0 5))]) hx hb hK hS 14 rfl rfl hi27 dX6_lay_122 (by rw [eI_0u26]; rfl) (fun H locs hS => ?_)
      refine lv_iinc (v := v3 + (-1)) (lv' := [(3, .int (v3 + (-1))), (9, .int x22), (8, .int (((((x17 / (lN 65536)) - (x17 / (lN 65536)) / (lN 32768) * (lN 32768)) - ((x17 / (lN 65536)) - (x17 / (lN 65536)) / (lN 32768) * (lN 32768)) / (v3.toInt64) * (v3.toInt64)) : Int64).toInt32)), (4, .long x17), (0, .ref h_0), (1, .int v1), (6, .int v6), (7, .int v7)]) hx hb dX6_lay_123 hl (k := 5) rfl rfl (by decide) rfl (fun ls hl => ?_)
      refine lv_iload hx hb dX6_lay_126 (lv_at hl 7 rfl) ?_
      refine lv_iload hx hb dX6_lay_128 (lv_at hl 6 rfl) ?_
      refine lv_icmp_ge (tgt := 151) hx hb dX6_lay_130 (by decide) (fun c_28 => ?_) (fun c_28 => ?_)
      · replace hF := ifp hF c_28
        refine lv_aload_n hx hb dX6_lay_151 rfl (lv_at hl 4 rfl) ?_
        refine r_get hx hb hts inX6 hown hK hS 0 22 rfl rfl (by decide) q7 rfl dX6_lay_152 ?_
        refine lv_aload_n hx hb dX6_lay_155 rfl (lv_at hl 4 rfl) ?_
        refine r_get hx hb hts inX6 hown hK hS 0 23 rfl rfl (by decide) q8 rfl dX6_lay_156 ?_
        refine lv_iload hx hb dX6_lay_159 (lv_at hl 1 rfl) ?_
        replace hF := wrA_e hF
        obtain ⟨hi30, I_0u29, eI_0u29, hF⟩ := hF
        refine r_iast (w2 := [(h_0, oX6 h_0_of h_0_kept h_0_column h_0_size h_0_hidden h_0_cell h_0_home h_0_waste h_0_stock h_0_past h_0_start h_0_known h_0_sorted h_0_row h_0_best I_0u29), (h_0_of, eI cI 9 (I_0u29 1)), (h_0_kept, eI cI 9 (I_0u29 2)), (h_0_column, eJ cJ 5 (L_0 0)), (h_0_size, eI cI 5 (I_0u29 3)), (h_0_hidden, eI cI 5 (I_0u29 4)), (h_0_cell, eI cI 2 (I_0u29 5)), (h_0_home, eI cI 4 (I_0u29 6)), (h_0_waste, eI cI 8 (I_0u29 7)), (h_0_stock, eI cI 8 (I_0u29 8)), (h_0_past, eJ cJ 1616 (L_0 1)), (h_0_start, eJ cJ 8 (L_0 2)), (h_0_known, eJ cJ 3216 (L_0 3)), (h_0_sorted, eJ cJ 3216 (L_0 4)), (h_0_row, eI cI 16 (I_0u29 9)), (h_0_best, eJ cJ 8 (L_0 5))]) hx hb hK hS 9 rfl rfl hi30 dX6_lay_161 (by rw [eI_0u29]; rfl) (fun H locs hS => ?_)
        refine lv_aload_n hx hb dX6_lay_162 rfl (lv_at hl 4 rfl) ?_
        refine lv_dup hx hb dX6_lay_163 rfl ?_
        refine r_get hx hb hts inX6 hown hK hS 0 23 rfl rfl (by decide) q8 rfl dX6_lay_164 ?_
        refine lv_iconst (v := (nI 1)) hx hb dX6_lay_167 (by decide) ?_
        refine lv_iadd hx hb dX6_lay_168 ?_
        replace hF := bnd_e hF
        obtain ⟨I_0u31, eI_0u31, hF⟩ := hF
        refine r_put (w2 := [(h_0, oX6 h_0_of h_0_kept h_0_column h_0_size h_0_hidden h_0_cell h_0_home h_0_waste h_0_stock h_0_past h_0_start h_0_known h_0_sorted h_0_row h_0_best I_0u31), (h_0_of, eI cI 9 (I_0u31 1)), (h_0_kept, eI cI 9 (I_0u31 2)), (h_0_column, eJ cJ 5 (L_0 0)), (h_0_size, eI cI 5 (I_0u31 3)), (h_0_hidden, eI cI 5 (I_0u31 4)), (h_0_cell, eI cI 2 (I_0u31 5)), (h_0_home, eI cI 4 (I_0u31 6)), (h_0_waste, eI cI 8 (I_0u31 7)), (h_0_stock, eI cI 8 (I_0u31 8)), (h_0_past, eJ cJ 1616 (L_0 1)), (h_0_start, eJ cJ 8 (L_0 2)), (h_0_known, eJ cJ 3216 (L_0 3)), (h_0_sorted, eJ cJ 3216 (L_0 4)), (h_0_row, eI cI 16 (I_0u31 9)), (h_0_best, eJ cJ 8 (L_0 5))]) hx hb hts inX6 tyX6 tyX6_ok nmX6 hown hK hS 0 23 rfl rfl (by decide) q8 rfl rfl rfl (Nat.le_of_ble_eq_true rfl) dX6_lay_169 (by rw [eI_0u31]; rfl) (fun H locs hS => ?_)
        refine lv_iinc (v := v7 + (nI 1)) (lv' := [(7, .int (v7 + (nI 1))), (3, .int (v3 + (-1))), (9, .int x22), (8, .int (((((x17 / (lN 65536)) - (x17 / (lN 65536)) / (lN 32768) * (lN 32768)) - ((x17 / (lN 65536)) - (x17 / (lN 65536)) / (lN 32768) * (lN 32768)) / (v3.toInt64) * (v3.toInt64)) : Int64).toInt32)), (4, .long x17), (0, .ref h_0), (1, .int v1), (6, .int v6)]) hx hb dX6_lay_172 hl (k := 7) rfl rfl (by decide) rfl (fun ls hl => ?_)
        refine lv_goto (tgt := 60) hx hb dX6_lay_175 (by decide) ?_
        exact hK60 I_0u31 L_0 v1 (v3 + (-1)) x17 v6 (v7 + (nI 1)) _ _ _ hS (lv_sub hl [5, 6, 1, 4, 7, 0] rfl) hF
      · replace hF := ifn hF c_28
        refine lv_aload_n hx hb dX6_lay_133 rfl (lv_at hl 4 rfl) ?_
        refine lv_iload hx hb dX6_lay_134 (lv_at hl 7 rfl) ?_
        refine lv_aload_n hx hb dX6_lay_136 rfl (lv_at hl 4 rfl) ?_
        refine r_get hx hb hts inX6 hown hK hS 0 10 rfl rfl (by decide) q0 rfl dX6_lay_137 ?_
        refine lv_iconst (v := (nI 2)) hx hb dX6_lay_140 (by decide) ?_
        replace hF := rdA_e hF
        obtain ⟨hi33, x32, ex32, hF⟩ := hF
        refine r_iald hx hb hK hS 1 rfl rfl hi33 dX6_lay_141 ex32 ?_
        replace hF := nz_e hF
        obtain ⟨hne34, hF⟩ := hF
        refine lv_irem hx hb dX6_lay_142 hne34 ?_
        refine lv_iload hx hb dX6_lay_143 (lv_at hl 1 rfl) ?_
        replace hF := cal2_e hF
        obtain ⟨I_0u35, L_0u36, hc37, hF⟩ := hF
        refine kV_v (As := [.int (v7 - v7 / x32 * x32), .int x22]) (rest := []) (wr := []) (w2 := [(h_0, oX6 h_0_of h_0_kept h_0_column h_0_size h_0_hidden h_0_cell h_0_home h_0_waste h_0_stock h_0_past h_0_start h_0_known h_0_sorted h_0_row h_0_best I_0u35), (h_0_of, eI cI 9 (I_0u35 1)), (h_0_kept, eI cI 9 (I_0u35 2)), (h_0_column, eJ cJ 5 (L_0u36 0)), (h_0_size, eI cI 5 (I_0u35 3)), (h_0_hidden, eI cI 5 (I_0u35 4)), (h_0_cell, eI cI 2 (I_0u35 5)), (h_0_home, eI cI 4 (I_0u35 6)), (h_0_waste, eI cI 8 (I_0u35 7)), (h_0_stock, eI cI 8 (I_0u35 8)), (h_0_past, eJ cJ 1616 (L_0u36 1)), (h_0_start, eJ cJ 8 (L_0u36 2)), (h_0_known, eJ cJ 3216 (L_0u36 3)), (h_0_sorted, eJ cJ 3216 (L_0u36 4)), (h_0_row, eI cI 16 (I_0u35 9)), (h_0_best, eJ cJ 8 (L_0u36 5))]) hCF hK (c_X6_push l D cI cJ h_0 h_0_of h_0_kept h_0_column h_0_size h_0_hidden h_0_cell h_0_home h_0_waste h_0_stock h_0_past h_0_start h_0_known h_0_sorted h_0_row h_0_best I_0u26 L_0 (v7 - v7 / x32 * x32) x22 I_0u35 L_0u36 hc37) (cwV 2 hts (TBL_V mw_205 mw_206 mw_207 mw_5 mw_208) rfl rfl rfl pmX6_push ⟨Nat.le_of_ble_eq_true rfl, Nat.le_of_ble_eq_true rfl⟩) hS hA [0, 1, 2, 3, 4, 5, 6, 7, 8, 9, 10, 11, 12, 13, 14, 15] [] rfl rfl rfl rfl (by decide) rfl rfl rfl hl.1 rfl (Nat.le_of_ble_eq_true rfl) ⟨Nat.zero_le _, Nat.zero_le _⟩ dX6_lay_145 rfl (fun H locs hS => ?_)
        refine lv_goto (tgt := 172) hx hb dX6_lay_148 (by decide) ?_
        refine lv_iinc (v := v7 + (nI 1)) (lv' := [(7, .int (v7 + (nI 1))), (3, .int (v3 + (-1))), (9, .int x22), (8, .int (((((x17 / (lN 65536)) - (x17 / (lN 65536)) / (lN 32768) * (lN 32768)) - ((x17 / (lN 65536)) - (x17 / (lN 65536)) / (lN 32768) * (lN 32768)) / (v3.toInt64) * (v3.toInt64)) : Int64).toInt32)), (4, .long x17), (0, .ref h_0), (1, .int v1), (6, .int v6)]) hx hb dX6_lay_172 hl (k := 7) rfl rfl (by decide) rfl (fun ls hl => ?_)
        refine lv_goto (tgt := 60) hx hb dX6_lay_175 (by decide) ?_
        exact hK60 I_0u35 L_0u36 v1 (v3 + (-1)) x17 v6 (v7 + (nI 1)) _ _ _ hS (lv_sub hl [5, 6, 1, 4, 7, 0] rfl) hF
  have L60 : ∀  (n : Nat) (I_0 : Nat → Nat → Int32) (L_0 : Nat → Nat → Int64) (v1 : Int32) (v3 : Int32) (v4 : Int64) (v6 : Int32) (v7 : Int32) (H : Heap) (locs : List Loc) (ls : Array Slot), HS D A H0 [(h_0, oX6 h_0_of h_0_kept h_0_column h_0_size h_0_hidden h_0_cell h_0_home h_0_waste h_0_stock h_0_past h_0_start h_0_known h_0_sorted h_0_row h_0_best I_0), (h_0_of, eI cI 9 (I_0 1)), (h_0_kept, eI cI 9 (I_0 2)), (h_0_column, eJ cJ 5 (L_0 0)), (h_0_size, eI cI 5 (I_0 3)), (h_0_hidden, eI cI 5 (I_0 4)), (h_0_cell, eI cI 2 (I_0 5)), (h_0_home, eI cI 4 (I_0 6)), (h_0_waste, eI cI 8 (I_0 7)), (h_0_stock, eI cI 8 (I_0 8)), (h_0_past, eJ cJ 1616 (L_0 1)), (h_0_start, eJ cJ 8 (L_0 2)), (h_0_known, eJ cJ 3216 (L_0 3)), (h_0_sorted, eJ cJ 3216 (L_0 4)), (h_0_row, eI cI 16 (I_0 9)), (h_0_best, eJ cJ 8 (L_0 5))] H locs → lv_has ls 10 [(0, .ref h_0), (1, .int v1), (3, .int v3), (4, .long v4), (6, .int v6), (7, .int v7)] → F_X6_lay_L60   n I_0 L_0 v1 v3 v4 v6 v7 = some (r_I_0, r_L_0) → W p l e ({ frames := 1, cells := 0, slots := 0, locals := 22 } : Room) s m args below meth c H locs 0 0 Q (F0 m 60 ls []) := by
    intro  n
    induction n with
    | zero => intro I_0 L_0 v1 v3 v4 v6 v7 H locs ls hS hl hF; exact nomatch (show (none : Option ((Nat → Nat → Int32) × (Nat → Nat → Int64))) = some _ from hF)
    | succ n ih => intro I_0 L_0 v1 v3 v4 v6 v7 H locs ls hS hl hF; exact S60  _ ih I_0 L_0 v1 v3 v4 v6 v7 H locs ls hS hl hF
  have B42 : ∀ (I_0 : Nat → Nat → Int32) (L_0 : Nat → Nat → Int64) (v1 : Int32) (v2 : Int32) (v3 : Int32) (H : Heap) (locs : List Loc) (ls : Array Slot), HS D A H0 [(h_0, oX6 h_0_of h_0_kept h_0_column h_0_size h_0_hidden h_0_cell h_0_home h_0_waste h_0_stock h_0_past h_0_start h_0_known h_0_sorted h_0_row h_0_best I_0), (h_0_of, eI cI 9 (I_0 1)), (h_0_kept, eI cI 9 (I_0 2)), (h_0_column, eJ cJ 5 (L_0 0)), (h_0_size, eI cI 5 (I_0 3)), (h_0_hidden, eI cI 5 (I_0 4)), (h_0_cell, eI cI 2 (I_0 5)), (h_0_home, eI cI 4 (I_0 6)), (h_0_waste, eI cI 8 (I_0 7)), (h_0_stock, eI cI 8 (I_0 8)), (h_0_past, eJ cJ 1616 (L_0 1)), (h_0_start, eJ cJ 8 (L_0 2)), (h_0_known, eJ cJ 3216 (L_0 3)), (h_0_sorted, eJ cJ 3216 (L_0 4)), (h_0_row, eI cI 16 (I_0 9)), (h_0_best, eJ cJ 8 (L_0 5))] H locs → lv_has ls 10 [(0, .ref h_0), (1, .int v1), (2, .int v2), (3, .int v3)] → F_X6_lay_b42   I_0 L_0 v1 v2 v3 = some (r_I_0, r_L_0) → W p l e ({ frames := 1, cells := 0, slots := 0, locals := 22 } : Room) s m args below meth c H locs 0 0 Q (F0 m 42 ls []) := by
    intro I_0 L_0 v1 v2 v3 H locs ls hS hl hF
    unfold F_X6_lay_b42 at hF
    refine lv_iload_n hx hb dX6_lay_42 rfl (lv_at hl 2 rfl) ?_
    refine lv_i2l hx hb dX6_lay_43 rfl ?_
    refine lv_lstore (lv' := [(4, .long (v2.toInt64)), (0, .ref h_0), (1, .int v1), (2, .int v2), (3, .int v3)]) hx hb dX6_lay_44 hl (by decide) rfl (fun ls hl => ?_)
    refine lv_iload_n hx hb dX6_lay_46 rfl (lv_at hl 4 rfl) ?_
    refine lv_aload_n hx hb dX6_lay_47 rfl (lv_at hl 1 rfl) ?_
    refine r_get hx hb hts inX6 hown hK hS 0 10 rfl rfl (by decide) q0 rfl dX6_lay_48 ?_
    refine lv_bipush (v := (nI 6)) hx hb dX6_lay_51 (by decide) ?_
    replace hF := rdA_e hF
    obtain ⟨hi39, x38, ex38, hF⟩ := hF
    refine r_iald hx hb hK hS 1 rfl rfl hi39 dX6_lay_53 ex38 ?_
    refine lv_isub hx hb dX6_lay_54 ?_
    refine lv_istore (lv' := [(6, .int (v3 - x38)), (4, .long (v2.toInt64)), (0, .ref h_0), (1, .int v1), (2, .int v2), (3, .int v3)]) hx hb dX6_lay_55 hl (by decide) rfl (fun ls hl => ?_)
    refine lv_iconst (v := (nI 0)) hx hb dX6_lay_57 (by decide) ?_
    refine lv_istore (lv' := [(7, .int (nI 0)), (6, .int (v3 - x38)), (4, .long (v2.toInt64)), (0, .ref h_0), (1, .int v1), (2, .int v2), (3, .int v3)]) hx hb dX6_lay_58 hl (by decide) rfl (fun ls hl => ?_)
    exact L60 FU I_0 L_0 v1 v3 (v2.toInt64) (v3 - x38) (nI 0) _ _ _ hS (lv_sub hl [3, 4, 6, 2, 1, 0] rfl) hF
  have S21 : ∀ (K21 : (Nat → Nat → Int32) → (Nat → Nat → Int64) → Int32 → Int32 → Int32 → Int32 → Option ((Nat → Nat → Int32) × (Nat → Nat → Int64))) (_ : ∀ (I_0 : Nat → Nat → Int32) (L_0 : Nat → Nat → Int64) (v1 : Int32) (v2 : Int32) (v3 : Int32) (v4 : Int32) (H : Heap) (locs : List Loc) (ls : Array Slot), HS D A H0 [(h_0, oX6 h_0_of h_0_kept h_0_column h_0_size h_0_hidden h_0_cell h_0_home h_0_waste h_0_stock h_0_past h_0_start h_0_known h_0_sorted h_0_row h_0_best I_0), (h_0_of, eI cI 9 (I_0 1)), (h_0_kept, eI cI 9 (I_0 2)), (h_0_column, eJ cJ 5 (L_0 0)), (h_0_size, eI cI 5 (I_0 3)), (h_0_hidden, eI cI 5 (I_0 4)), (h_0_cell, eI cI 2 (I_0 5)), (h_0_home, eI cI 4 (I_0 6)), (h_0_waste, eI cI 8 (I_0 7)), (h_0_stock, eI cI 8 (I_0 8)), (h_0_past, eJ cJ 1616 (L_0 1)), (h_0_start, eJ cJ 8 (L_0 2)), (h_0_known, eJ cJ 3216 (L_0 3)), (h_0_sorted, eJ cJ 3216 (L_0 4)), (h_0_row, eI cI 16 (I_0 9)), (h_0_best, eJ cJ 8 (L_0 5))] H locs → lv_has ls 10 [(0, .ref h_0), (1, .int v1), (2, .int v2), (3, .int v3), (4, .int v4)] → K21 I_0 L_0 v1 v2 v3 v4 = some (r_I_0, r_L_0) → W p l e ({ frames := 1, cells := 0, slots := 0, locals := 22 } : Room) s m args below meth c H locs 0 0 Q (F0 m 21 ls [])) (I_0 : Nat → Nat → Int32) (L_0 : Nat → Nat → Int64) (v1 : Int32) (v2 : Int32) (v3 : Int32) (v4 : Int32) (H : Heap) (locs : List Loc) (ls : Array Slot), HS D A H0 [(h_0, oX6 h_0_of h_0_kept h_0_column h_0_size h_0_hidden h_0_cell h_0_home h_0_waste h_0_stock h_0_past h_0_start h_0_known h_0_sorted h_0_row h_0_best I_0), (h_0_of, eI cI 9 (I_0 1)), (h_0_kept, eI cI 9 (I_0 2)), (h_0_column, eJ cJ 5 (L_0 0)), (h_0_size, eI cI 5 (I_0 3)), (h_0_hidden, eI cI 5 (I_0 4)), (h_0_cell, eI cI 2 (I_0 5)), (h_0_home, eI cI 4 (I_0 6)), (h_0_waste, eI cI 8 (I_0 7)), (h_0_stock, eI cI 8 (I_0 8)), (h_0_past, eJ cJ 1616 (L_0 1)), (h_0_start, eJ cJ 8 (L_0 2)), (h_0_known, eJ cJ 3216 (L_0 3)), (h_0_sorted, eJ cJ 3216 (L_0 4)), (h_0_row, eI cI 16 (I_0 9)), (h_0_best, eJ cJ 8 (L_0 5))] H locs → lv_has ls 10 [(0, .ref h_0), (1, .int v1), (2, .int v2), (3, .int v3), (4, .int v4)] → F_X6_lay_s21  K21 I_0 L_0 v1 v2 v3 v4 = some (r_I_0, r_L_0) → W p l e ({ frames := 1, cells := 0, slots := 0, locals := 22 } : Room) s m args below meth c H locs 0 0 Q (F0 m 21 ls []) := by
    intro K21 hK21 I_0 L_0 v1 v2 v3 v4 H locs ls hS hl hF
    unfold F_X6_lay_s21 at hF
    refine lv_iload hx hb dX6_lay_21 (lv_at hl 4 rfl) ?_
    refine lv_iload_n hx hb dX6_lay_23 rfl (lv_at hl 3 rfl) ?_
    refine lv_icmp_ge (tgt := 42) hx hb dX6_lay_24 (by decide) (fun c_40 => ?_) (fun c_40 => ?_)
    · replace hF := ifp hF c_40
      exact B42 I_0 L_0 v1 v2 v3 _ _ _ hS (lv_sub hl [0, 1, 2, 3] rfl) hF
    · replace hF := ifn hF c_40
      refine lv_aload_n hx hb dX6_lay_27 rfl (lv_at hl 0 rfl) ?_
      refine r_get hx hb hts inX6 hown hK hS 0 30 rfl rfl (by decide) q6 rfl dX6_lay_28 ?_
      refine lv_iload hx hb dX6_lay_31 (lv_at hl 4 rfl) ?_
      refine lv_iload hx hb dX6_lay_33 (lv_at hl 4 rfl) ?_
      replace hF := wrA_e hF
      obtain ⟨hi42, I_0u41, eI_0u41, hF⟩ := hF
      refine r_iast (w2 := [(h_0, oX6 h_0_of h_0_kept h_0_column h_0_size h_0_hidden h_0_cell h_0_home h_0_waste h_0_stock h_0_past h_0_start h_0_known h_0_sorted h_0_row h_0_best I_0u41), (h_0_of, eI cI 9 (I_0u41 1)), (h_0_kept, eI cI 9 (I_0u41 2)), (h_0_column, eJ cJ 5 (L_0 0)), (h_0_size, eI cI 5 (I_0u41 3)), (h_0_hidden, eI cI 5 (I_0u41 4)), (h_0_cell, eI cI 2 (I_0u41 5)), (h_0_home, eI cI 4 (I_0u41 6)), (h_0_waste, eI cI 8 (I_0u41 7)), (h_0_stock, eI cI 8 (I_0u41 8)), (h_0_past, eJ cJ 1616 (L_0 1)), (h_0_start, eJ cJ 8 (L_0 2)), (h_0_known, eJ cJ 3216 (L_0 3)), (h_0_sorted, eJ cJ 3216 (L_0 4)), (h_0_row, eI cI 16 (I_0u41 9)), (h_0_best, eJ cJ 8 (L_0 5))]) hx hb hK hS 14 rfl rfl hi42 dX6_lay_35 (by rw [eI_0u41]; rfl) (fun H locs hS => ?_)
      refine lv_iinc (v := v4 + (nI 1)) (lv' := [(4, .int (v4 + (nI 1))), (0, .ref h_0), (1, .int v1), (2, .int v2), (3, .int v3)]) hx hb dX6_lay_36 hl (k := 4) rfl rfl (by decide) rfl (fun ls hl => ?_)
      refine lv_goto (tgt := 21) hx hb dX6_lay_39 (by decide) ?_
      exact hK21 I_0u41 L_0 v1 v2 v3 (v4 + (nI 1)) _ _ _ hS (lv_sub hl [1, 2, 3, 4, 0] rfl) hF
  have L21 : ∀  (n : Nat) (I_0 : Nat → Nat → Int32) (L_0 : Nat → Nat → Int64) (v1 : Int32) (v2 : Int32) (v3 : Int32) (v4 : Int32) (H : Heap) (locs : List Loc) (ls : Array Slot), HS D A H0 [(h_0, oX6 h_0_of h_0_kept h_0_column h_0_size h_0_hidden h_0_cell h_0_home h_0_waste h_0_stock h_0_past h_0_start h_0_known h_0_sorted h_0_row h_0_best I_0), (h_0_of, eI cI 9 (I_0 1)), (h_0_kept, eI cI 9 (I_0 2)), (h_0_column, eJ cJ 5 (L_0 0)), (h_0_size, eI cI 5 (I_0 3)), (h_0_hidden, eI cI 5 (I_0 4)), (h_0_cell, eI cI 2 (I_0 5)), (h_0_home, eI cI 4 (I_0 6)), (h_0_waste, eI cI 8 (I_0 7)), (h_0_stock, eI cI 8 (I_0 8)), (h_0_past, eJ cJ 1616 (L_0 1)), (h_0_start, eJ cJ 8 (L_0 2)), (h_0_known, eJ cJ 3216 (L_0 3)), (h_0_sorted, eJ cJ 3216 (L_0 4)), (h_0_row, eI cI 16 (I_0 9)), (h_0_best, eJ cJ 8 (L_0 5))] H locs → lv_has ls 10 [(0, .ref h_0), (1, .int v1), (2, .int v2), (3, .int v3), (4, .int v4)] → F_X6_lay_L21   n I_0 L_0 v1 v2 v3 v4 = some (r_I_0, r_L_0) → W p l e ({ frames := 1, cells := 0, slots := 0, locals := 22 } : Room) s m args below meth c H locs 0 0 Q (F0 m 21 ls []) := by
    intro  n
    induction n with
    | zero => intro I_0 L_0 v1 v2 v3 v4 H locs ls hS hl hF; exact nomatch (show (none : Option ((Nat → Nat → Int32) × (Nat → Nat → Int64))) = some _ from hF)
    | succ n ih => intro I_0 L_0 v1 v2 v3 v4 H locs ls hS hl hF; exact S21  _ ih I_0 L_0 v1 v2 v3 v4 H locs ls hS hl hF
  unfold F_X6_lay at hF
  refine lv_aload_n hx hb dX6_lay_0 rfl (lv_at hl 0 rfl) ?_
  replace hF := cal2_e hF
  obtain ⟨I_0u43, L_0u44, hc45, hF⟩ := hF
  refine kV_v (As := []) (rest := []) (wr := []) (w2 := [(h_0, oX6 h_0_of h_0_kept h_0_column h_0_size h_0_hidden h_0_cell h_0_home h_0_waste h_0_stock h_0_past h_0_start h_0_known h_0_sorted h_0_row h_0_best I_0u43), (h_0_of, eI cI 9 (I_0u43 1)), (h_0_kept, eI cI 9 (I_0u43 2)), (h_0_column, eJ cJ 5 (L_0u44 0)), (h_0_size, eI cI 5 (I_0u43 3)), (h_0_hidden, eI cI 5 (I_0u43 4)), (h_0_cell, eI cI 2 (I_0u43 5)), (h_0_home, eI cI 4 (I_0u43 6)), (h_0_waste, eI cI 8 (I_0u43 7)), (h_0_stock, eI cI 8 (I_0u43 8)), (h_0_past, eJ cJ 1616 (L_0u44 1)), (h_0_start, eJ cJ 8 (L_0u44 2)), (h_0_known, eJ cJ 3216 (L_0u44 3)), (h_0_sorted, eJ cJ 3216 (L_0u44 4)), (h_0_row, eI cI 16 (I_0u43 9)), (h_0_best, eJ cJ 8 (L_0u44 5))]) hCF hK (c_X6_clear l D cI cJ h_0 h_0_of h_0_kept h_0_column h_0_size h_0_hidden h_0_cell h_0_home h_0_waste h_0_stock h_0_past h_0_start h_0_known h_0_sorted h_0_row h_0_best I_0 L_0 I_0u43 L_0u44 hc45) (cwV 0 hts (TBL_V mw_191 mw_192 mw_193 mw_5 mw_194) rfl rfl rfl pmX6_clear ⟨Nat.le_of_ble_eq_true rfl, Nat.le_of_ble_eq_true rfl⟩) hS hA [0, 1, 2, 3, 4, 5, 6, 7, 8, 9, 10, 11, 12, 13, 14, 15] [] rfl rfl rfl rfl (by decide) rfl rfl rfl hl.1 rfl (Nat.le_of_ble_eq_true rfl) ⟨Nat.zero_le _, Nat.zero_le _⟩ dX6_lay_1 rfl (fun H locs hS => ?_)
  refine lv_aload_n hx hb dX6_lay_4 rfl (lv_at hl 0 rfl) ?_
  refine r_get hx hb hts inX6 hown hK hS 0 10 rfl rfl (by decide) q0 rfl dX6_lay_5 ?_
  refine lv_iconst (v := (nI 0)) hx hb dX6_lay_8 (by decide) ?_
  replace hF := rdA_e hF
  obtain ⟨hi47, x46, ex46, hF⟩ := hF
  refine r_iald hx hb hK hS 1 rfl rfl hi47 dX6_lay_9 ex46 ?_
  refine lv_aload_n hx hb dX6_lay_10 rfl (lv_at hl 0 rfl) ?_
  refine r_get hx hb hts inX6 hown hK hS 0 10 rfl rfl (by decide) q0 rfl dX6_lay_11 ?_
  refine lv_iconst (v := (nI 1)) hx hb dX6_lay_14 (by decide) ?_
  replace hF := rdA_e hF
  obtain ⟨hi49, x48, ex48, hF⟩ := hF
  refine r_iald hx hb hK hS 1 rfl rfl hi49 dX6_lay_15 ex48 ?_
  refine lv_imul hx hb dX6_lay_16 ?_
  refine lv_istore_n (lv' := [(3, .int (x46 * x48)), (0, .ref h_0), (1, .int v1), (2, .int v2)]) hx hb dX6_lay_17 rfl hl (by decide) rfl (fun ls hl => ?_)
  refine lv_iconst (v := (nI 0)) hx hb dX6_lay_18 (by decide) ?_
  refine lv_istore (lv' := [(4, .int (nI 0)), (3, .int (x46 * x48)), (0, .ref h_0), (1, .int v1), (2, .int v2)]) hx hb dX6_lay_19 hl (by decide) rfl (fun ls hl => ?_)
  exact L21 FU I_0u43 L_0u44 v1 v2 (x46 * x48) (nI 0) _ _ _ hS (lv_sub hl [2, 3, 4, 1, 0] rfl) hF
set_option maxHeartbeats 4000000 in
set_option maxRecDepth 100000 in
theorem c_X6_atHome (l : Launch) (D : va_G) (cI cJ : ClassId) (h_0 h_0_of h_0_kept h_0_column h_0_size h_0_hidden h_0_cell h_0_home h_0_waste h_0_stock h_0_past h_0_start h_0_known h_0_sorted h_0_row h_0_best : Nat) (I_0 : Nat → Nat → Int32) (L_0 : Nat → Nat → Int64) (rv : Int32) (hF : F_X6_atHome I_0 L_0 = some rv) : CtI l D [(cI, .int), (cJ, .long)] yX6_atHome wtX6_atHome ({ frames := 0, cells := 0, slots := 0, locals := 0 } : Room) [.ref h_0] [(h_0, oX6 h_0_of h_0_kept h_0_column h_0_size h_0_hidden h_0_cell h_0_home h_0_waste h_0_stock h_0_past h_0_start h_0_known h_0_sorted h_0_row h_0_best I_0), (h_0_of, eI cI 9 (I_0 1)), (h_0_kept, eI cI 9 (I_0 2)), (h_0_column, eJ cJ 5 (L_0 0)), (h_0_size, eI cI 5 (I_0 3)), (h_0_hidden, eI cI 5 (I_0 4)), (h_0_cell, eI cI 2 (I_0 5)), (h_0_home, eI cI 4 (I_0 6)), (h_0_waste, eI cI 8 (I_0 7)), (h_0_stock, eI cI 8 (I_0 8)), (h_0_past, eJ cJ 1616 (L_0 1)), (h_0_start, eJ cJ 8 (L_0 2)), (h_0_known, eJ cJ 3216 (L_0 3)), (h_0_sorted, eJ cJ 3216 (L_0 4)), (h_0_row, eI cI 16 (I_0 9)), (h_0_best, eJ cJ 8 (L_0 5))] [(h_0, oX6 h_0_of h_0_kept h_0_column h_0_size h_0_hidden h_0_cell h_0_home h_0_waste h_0_stock h_0_past h_0_start h_0_known h_0_sorted h_0_row h_0_best I_0), (h_0_of, eI cI 9 (I_0 1)), (h_0_kept, eI cI 9 (I_0 2)), (h_0_column, eJ cJ 5 (L_0 0)), (h_0_size, eI cI 5 (I_0 3)), (h_0_hidden, eI cI 5 (I_0 4)), (h_0_cell, eI cI 2 (I_0 5)), (h_0_home, eI cI 4 (I_0 6)), (h_0_waste, eI cI 8 (I_0 7)), (h_0_stock, eI cI 8 (I_0 8)), (h_0_past, eJ cJ 1616 (L_0 1)), (h_0_start, eJ cJ 8 (L_0 2)), (h_0_known, eJ cJ 3216 (L_0 3)), (h_0_sorted, eJ cJ 3216 (L_0 4)), (h_0_row, eI cI 16 (I_0 9)), (h_0_best, eJ cJ 8 (L_0 5))] rv := by
  refine CtI.of (cc := cX6_atHome) (maxL := 1) (by decide) rfl (Nat.le_of_ble_eq_true rfl) ?_
  intro p e s m args below meth c A H0 Q ls X hS hl kret
  have hCF := X.1
  obtain ⟨⟨hx, hb, hml, hown, hts⟩, hK, hA⟩ := X
  have hl : lv_has ls 1 [(0, .ref h_0)] := hl
  have q0 := hts (.fieldLink RX6 45 "PatienceryModel" "home" "[I") (List.mem_cons_of_mem _ mw_167)
  have inX6 : ∀ w ∈ u_ws RX6 TX6 32, w ∈ wtX6_atHome := fun w h => List.mem_cons_of_mem _ (inlX6 w h)
  unfold F_X6_atHome at hF
  refine lv_aload_n hx hb dX6_atHome_0 rfl (lv_at hl 0 rfl) ?_
  refine r_get hx hb hts inX6 hown hK hS 0 19 rfl rfl (by decide) q0 rfl dX6_atHome_1 ?_
  refine lv_iconst (v := (nI 0)) hx hb dX6_atHome_4 (by decide) ?_
  replace hF := rdA_e hF
  obtain ⟨hi2, x1, ex1, hF⟩ := hF
  refine r_iald hx hb hK hS 7 rfl rfl hi2 dX6_atHome_5 ex1 ?_
  refine lv_aload_n hx hb dX6_atHome_6 rfl (lv_at hl 0 rfl) ?_
  refine r_get hx hb hts inX6 hown hK hS 0 19 rfl rfl (by decide) q0 rfl dX6_atHome_7 ?_
  refine lv_iconst (v := (nI 1)) hx hb dX6_atHome_10 (by decide) ?_
  replace hF := rdA_e hF
  obtain ⟨hi4, x3, ex3, hF⟩ := hF
  refine r_iald hx hb hK hS 7 rfl rfl hi4 dX6_atHome_11 ex3 ?_
  refine lv_iadd hx hb dX6_atHome_12 ?_
  refine lv_aload_n hx hb dX6_atHome_13 rfl (lv_at hl 0 rfl) ?_
  refine r_get hx hb hts inX6 hown hK hS 0 19 rfl rfl (by decide) q0 rfl dX6_atHome_14 ?_
  refine lv_iconst (v := (nI 2)) hx hb dX6_atHome_17 (by decide) ?_
  replace hF := rdA_e hF
  obtain ⟨hi6, x5, ex5, hF⟩ := hF
  refine r_iald hx hb hK hS 7 rfl rfl hi6 dX6_atHome_18 ex5 ?_
  refine lv_iadd hx hb dX6_atHome_19 ?_
  refine lv_aload_n hx hb dX6_atHome_20 rfl (lv_at hl 0 rfl) ?_
  refine r_get hx hb hts inX6 hown hK hS 0 19 rfl rfl (by decide) q0 rfl dX6_atHome_21 ?_
  refine lv_iconst (v := (nI 3)) hx hb dX6_atHome_24 (by decide) ?_
  replace hF := rdA_e hF
  obtain ⟨hi8, x7, ex7, hF⟩ := hF
  refine r_iald hx hb hK hS 7 rfl rfl hi8 dX6_atHome_25 ex7 ?_
  refine lv_iadd hx hb dX6_atHome_26 ?_
  have e9_0 := Option.some.inj hF
  subst e9_0
  exact kret _ _ _ _ hS dX6_atHome_27
set_option maxHeartbeats 4000000 in
set_option maxRecDepth 100000 in
theorem c_X6_money (l : Launch) (D : va_G) (cI cJ : ClassId) (h_0 h_0_of h_0_kept h_0_column h_0_size h_0_hidden h_0_cell h_0_home h_0_waste h_0_stock h_0_past h_0_start h_0_known h_0_sorted h_0_row h_0_best : Nat) (I_0 : Nat → Nat → Int32) (L_0 : Nat → Nat → Int64) (rv : Int32) (hF : F_X6_money I_0 L_0 = some rv) : CtI l D [(cI, .int), (cJ, .long)] yX6_money wtX6_money ({ frames := 1, cells := 0, slots := 0, locals := 20 } : Room) [.ref h_0] [(h_0, oX6 h_0_of h_0_kept h_0_column h_0_size h_0_hidden h_0_cell h_0_home h_0_waste h_0_stock h_0_past h_0_start h_0_known h_0_sorted h_0_row h_0_best I_0), (h_0_of, eI cI 9 (I_0 1)), (h_0_kept, eI cI 9 (I_0 2)), (h_0_column, eJ cJ 5 (L_0 0)), (h_0_size, eI cI 5 (I_0 3)), (h_0_hidden, eI cI 5 (I_0 4)), (h_0_cell, eI cI 2 (I_0 5)), (h_0_home, eI cI 4 (I_0 6)), (h_0_waste, eI cI 8 (I_0 7)), (h_0_stock, eI cI 8 (I_0 8)), (h_0_past, eJ cJ 1616 (L_0 1)), (h_0_start, eJ cJ 8 (L_0 2)), (h_0_known, eJ cJ 3216 (L_0 3)), (h_0_sorted, eJ cJ 3216 (L_0 4)), (h_0_row, eI cI 16 (I_0 9)), (h_0_best, eJ cJ 8 (L_0 5))] [(h_0, oX6 h_0_of h_0_kept h_0_column h_0_size h_0_hidden h_0_cell h_0_home h_0_waste h_0_stock h_0_past h_0_start h_0_known h_0_sorted h_0_row h_0_best I_0), (h_0_of, eI cI 9 (I_0 1)), (h_0_kept, eI cI 9 (I_0 2)), (h_0_column, eJ cJ 5 (L_0 0)), (h_0_size, eI cI 5 (I_0 3)), (h_0_hidden, eI cI 5 (I_0 4)), (h_0_cell, eI cI 2 (I_0 5)), (h_0_home, eI cI 4 (I_0 6)), (h_0_waste, eI cI 8 (I_0 7)), (h_0_stock, eI cI 8 (I_0 8)), (h_0_past, eJ cJ 1616 (L_0 1)), (h_0_start, eJ cJ 8 (L_0 2)), (h_0_known, eJ cJ 3216 (L_0 3)), (h_0_sorted, eJ cJ 3216 (L_0 4)), (h_0_row, eI cI 16 (I_0 9)), (h_0_best, eJ cJ 8 (L_0 5))] rv := by
  refine CtI.of (cc := cX6_money) (maxL := 1) (by decide) rfl (Nat.le_of_ble_eq_true rfl) ?_
  intro p e s m args below meth c A H0 Q ls X hS hl kret
  have hCF := X.1
  obtain ⟨⟨hx, hb, hml, hown, hts⟩, hK, hA⟩ := X
  have hl : lv_has ls 1 [(0, .ref h_0)] := hl
  have q0 := hts (.fieldLink RX6 148 "PatienceryModel" "done" "I") (List.mem_cons_of_mem _ mw_305)
  have inX6 : ∀ w ∈ u_ws RX6 TX6 32, w ∈ wtX6_money := fun w h => List.mem_cons_of_mem _ (inlX6 w h)
  have q2 := hts (.fieldLink RX6 151 "PatienceryModel" "undone" "I") (List.mem_cons_of_mem _ mw_306)
  unfold F_X6_money at hF
  refine lv_iconst (v := (nI 5)) hx hb dX6_money_0 (by decide) ?_
  refine lv_aload_n hx hb dX6_money_1 rfl (lv_at hl 0 rfl) ?_
  replace hF := cal1_e hF
  obtain ⟨x1, hc2, hF⟩ := hF
  refine kV_i (As := []) (rest := [.int (nI 5)]) (wr := []) (w2 := [(h_0, oX6 h_0_of h_0_kept h_0_column h_0_size h_0_hidden h_0_cell h_0_home h_0_waste h_0_stock h_0_past h_0_start h_0_known h_0_sorted h_0_row h_0_best I_0), (h_0_of, eI cI 9 (I_0 1)), (h_0_kept, eI cI 9 (I_0 2)), (h_0_column, eJ cJ 5 (L_0 0)), (h_0_size, eI cI 5 (I_0 3)), (h_0_hidden, eI cI 5 (I_0 4)), (h_0_cell, eI cI 2 (I_0 5)), (h_0_home, eI cI 4 (I_0 6)), (h_0_waste, eI cI 8 (I_0 7)), (h_0_stock, eI cI 8 (I_0 8)), (h_0_past, eJ cJ 1616 (L_0 1)), (h_0_start, eJ cJ 8 (L_0 2)), (h_0_known, eJ cJ 3216 (L_0 3)), (h_0_sorted, eJ cJ 3216 (L_0 4)), (h_0_row, eI cI 16 (I_0 9)), (h_0_best, eJ cJ 8 (L_0 5))]) hCF hK (c_X6_atHome l D cI cJ h_0 h_0_of h_0_kept h_0_column h_0_size h_0_hidden h_0_cell h_0_home h_0_waste h_0_stock h_0_past h_0_start h_0_known h_0_sorted h_0_row h_0_best I_0 L_0 x1 hc2) (cwV 0 hts (TBL_V mw_311 mw_312 mw_313 mw_5 mw_314) rfl rfl rfl pmX6_atHome ⟨Nat.le_of_ble_eq_true rfl, Nat.le_of_ble_eq_true rfl⟩) hS hA [0, 1, 2, 3, 4, 5, 6, 7, 8, 9, 10, 11, 12, 13, 14, 15] [] rfl rfl rfl rfl (by decide) rfl rfl rfl hl.1 rfl (Nat.le_of_ble_eq_true rfl) ⟨Nat.zero_le _, Nat.zero_le _⟩ dX6_money_2 rfl (fun H locs hS => ?_)
  refine lv_imul hx hb dX6_money_5 ?_
  refine lv_aload_n hx hb dX6_money_6 rfl (lv_at hl 0 rfl) ?_
  refine r_get hx hb hts inX6 hown hK hS 0 13 rfl rfl (by decide) q0 rfl dX6_money_7 ?_
  refine lv_isub hx hb dX6_money_10 ?_
  refine lv_iconst (v := (nI 2)) hx hb dX6_money_11 (by decide) ?_
  refine lv_aload_n hx hb dX6_money_12 rfl (lv_at hl 0 rfl) ?_
  refine r_get hx hb hts inX6 hown hK hS 0 12 rfl rfl (by decide) q2 rfl dX6_money_13 ?_
  refine lv_imul hx hb dX6_money_16 ?_
  refine lv_isub hx hb dX6_money_17 ?_
  have e9_0 := Option.some.inj hF
  subst e9_0
  exact kret _ _ _ _ hS dX6_money_18
set_option maxHeartbeats 4000000 in
set_option maxRecDepth 100000 in
theorem c_X6_store_past (l : Launch) (D : va_G) (cI cJ : ClassId) (h_0 h_0_of h_0_kept h_0_column h_0_size h_0_hidden h_0_cell h_0_home h_0_waste h_0_stock h_0_past h_0_start h_0_known h_0_sorted h_0_row h_0_best : Nat) (I_0 : Nat → Nat → Int32) (L_0 : Nat → Nat → Int64) (v2 : Int32) (r_L_0 : Nat → Nat → Int64) (hF : F_X6_store I_0 1 1616 L_0 v2 = some r_L_0) : CtV l D [(cI, .int), (cJ, .long)] yX6_store wtX6_store ({ frames := 0, cells := 0, slots := 0, locals := 0 } : Room) [.ref h_0, .ref h_0_past, .int v2] [(h_0, oX6 h_0_of h_0_kept h_0_column h_0_size h_0_hidden h_0_cell h_0_home h_0_waste h_0_stock h_0_past h_0_start h_0_known h_0_sorted h_0_row h_0_best I_0), (h_0_of, eI cI 9 (I_0 1)), (h_0_kept, eI cI 9 (I_0 2)), (h_0_column, eJ cJ 5 (L_0 0)), (h_0_size, eI cI 5 (I_0 3)), (h_0_hidden, eI cI 5 (I_0 4)), (h_0_cell, eI cI 2 (I_0 5)), (h_0_home, eI cI 4 (I_0 6)), (h_0_waste, eI cI 8 (I_0 7)), (h_0_stock, eI cI 8 (I_0 8)), (h_0_past, eJ cJ 1616 (L_0 1)), (h_0_start, eJ cJ 8 (L_0 2)), (h_0_known, eJ cJ 3216 (L_0 3)), (h_0_sorted, eJ cJ 3216 (L_0 4)), (h_0_row, eI cI 16 (I_0 9)), (h_0_best, eJ cJ 8 (L_0 5))] [(h_0, oX6 h_0_of h_0_kept h_0_column h_0_size h_0_hidden h_0_cell h_0_home h_0_waste h_0_stock h_0_past h_0_start h_0_known h_0_sorted h_0_row h_0_best I_0), (h_0_of, eI cI 9 (I_0 1)), (h_0_kept, eI cI 9 (I_0 2)), (h_0_column, eJ cJ 5 (r_L_0 0)), (h_0_size, eI cI 5 (I_0 3)), (h_0_hidden, eI cI 5 (I_0 4)), (h_0_cell, eI cI 2 (I_0 5)), (h_0_home, eI cI 4 (I_0 6)), (h_0_waste, eI cI 8 (I_0 7)), (h_0_stock, eI cI 8 (I_0 8)), (h_0_past, eJ cJ 1616 (r_L_0 1)), (h_0_start, eJ cJ 8 (r_L_0 2)), (h_0_known, eJ cJ 3216 (r_L_0 3)), (h_0_sorted, eJ cJ 3216 (r_L_0 4)), (h_0_row, eI cI 16 (I_0 9)), (h_0_best, eJ cJ 8 (r_L_0 5))] := by
  refine CtV.of (cc := cX6_store) (maxL := 10) (by decide) rfl (Nat.le_of_ble_eq_true rfl) ?_
  intro p e s m args below meth c A H0 Q ls X hS hl kret
  have hCF := X.1
  obtain ⟨⟨hx, hb, hml, hown, hts⟩, hK, hA⟩ := X
  have hl : lv_has ls 10 [(0, .ref h_0), (1, .ref h_0_past), (2, .int v2)] := hl
  have q0 := hts (.fieldLink RX6 120 "PatienceryModel" "left" "I") (List.mem_cons_of_mem _ mw_190)
  have inX6 : ∀ w ∈ u_ws RX6 TX6 32, w ∈ wtX6_store := fun w h => List.mem_cons_of_mem _ (inlX6 w h)
  have q2 := hts (.fieldLink RX6 51 "PatienceryModel" "stock" "[I") (List.mem_cons_of_mem _ mw_169)
  have q3 := hts (.fieldLink RX6 117 "PatienceryModel" "wasted" "I") (List.mem_cons_of_mem _ mw_195)
  have q4 := hts (.fieldLink RX6 48 "PatienceryModel" "waste" "[I") (List.mem_cons_of_mem _ mw_168)
  have q5 := hts (.fieldLink RX6 45 "PatienceryModel" "home" "[I") (List.mem_cons_of_mem _ mw_167)
  have q6 := hts (.fieldLink RX6 42 "PatienceryModel" "cell" "[I") (List.mem_cons_of_mem _ mw_166)
  have q7 := hts (.fieldLink RX6 123 "PatienceryModel" "turned" "I") (List.mem_cons_of_mem _ mw_196)
  have q8 := hts (.fieldLink RX6 32 "PatienceryModel" "column" "[J") (List.mem_cons_of_mem _ mw_163)
  have q9 := hts (.fieldLink RX6 36 "PatienceryModel" "size" "[I") (List.mem_cons_of_mem _ mw_164)
  have q10 := hts (.fieldLink RX6 39 "PatienceryModel" "hidden" "[I") (List.mem_cons_of_mem _ mw_165)
  have B241 : ∀ (L_0 : Nat → Nat → Int64) (v2 : Int32) (v7 : Int64) (H : Heap) (locs : List Loc) (ls : Array Slot), HS D A H0 [(h_0, oX6 h_0_of h_0_kept h_0_column h_0_size h_0_hidden h_0_cell h_0_home h_0_waste h_0_stock h_0_past h_0_start h_0_known h_0_sorted h_0_row h_0_best I_0), (h_0_of, eI cI 9 (I_0 1)), (h_0_kept, eI cI 9 (I_0 2)), (h_0_column, eJ cJ 5 (L_0 0)), (h_0_size, eI cI 5 (I_0 3)), (h_0_hidden, eI cI 5 (I_0 4)), (h_0_cell, eI cI 2 (I_0 5)), (h_0_home, eI cI 4 (I_0 6)), (h_0_waste, eI cI 8 (I_0 7)), (h_0_stock, eI cI 8 (I_0 8)), (h_0_past, eJ cJ 1616 (L_0 1)), (h_0_start, eJ cJ 8 (L_0 2)), (h_0_known, eJ cJ 3216 (L_0 3)), (h_0_sorted, eJ cJ 3216 (L_0 4)), (h_0_row, eI cI 16 (I_0 9)), (h_0_best, eJ cJ 8 (L_0 5))] H locs → lv_has ls 10 [(1, .ref h_0_past), (2, .int v2), (7, .long v7)] → F_X6_store_b241 I_0 1 1616  L_0 v2 v7 = some r_L_0 → W p l e ({ frames := 0, cells := 0, slots := 0, locals := 0 } : Room) s m args below meth c H locs 0 0 Q (F0 m 241 ls []) := by
    intro L_0 v2 v7 H locs ls hS hl hF
    unfold F_X6_store_b241 at hF
    refine lv_aload_n hx hb dX6_store_241 rfl (lv_at hl 0 rfl) ?_
    refine lv_iload_n hx hb dX6_store_242 rfl (lv_at hl 1 rfl) ?_
    refine lv_bipush (v := (nI 7)) hx hb dX6_store_243 (by decide) ?_
    refine lv_iadd hx hb dX6_store_245 ?_
    refine lv_lload hx hb dX6_store_246 (lv_at hl 2 rfl) ?_
    replace hF := wrJ_e hF
    obtain ⟨hi2, L_0u1, eL_0u1, hF⟩ := hF
    refine r_last (w2 := [(h_0, oX6 h_0_of h_0_kept h_0_column h_0_size h_0_hidden h_0_cell h_0_home h_0_waste h_0_stock h_0_past h_0_start h_0_known h_0_sorted h_0_row h_0_best I_0), (h_0_of, eI cI 9 (I_0 1)), (h_0_kept, eI cI 9 (I_0 2)), (h_0_column, eJ cJ 5 (L_0u1 0)), (h_0_size, eI cI 5 (I_0 3)), (h_0_hidden, eI cI 5 (I_0 4)), (h_0_cell, eI cI 2 (I_0 5)), (h_0_home, eI cI 4 (I_0 6)), (h_0_waste, eI cI 8 (I_0 7)), (h_0_stock, eI cI 8 (I_0 8)), (h_0_past, eJ cJ 1616 (L_0u1 1)), (h_0_start, eJ cJ 8 (L_0u1 2)), (h_0_known, eJ cJ 3216 (L_0u1 3)), (h_0_sorted, eJ cJ 3216 (L_0u1 4)), (h_0_row, eI cI 16 (I_0 9)), (h_0_best, eJ cJ 8 (L_0u1 5))]) hx hb hK hS 10 rfl rfl hi2 dX6_store_248 (by rw [eL_0u1]; rfl) (fun H locs hS => ?_)
    have e9_0 := Option.some.inj hF
    subst e9_0
    exact kret _ _ _ _ hS dX6_store_249
  have B232 : ∀ (K163 : (Nat → Nat → Int64) → Int32 → Int64 → Int32 → Option ((Nat → Nat → Int64))) (_ : ∀ (L_0 : Nat → Nat → Int64) (v2 : Int32) (v7 : Int64) (v9 : Int32) (H : Heap) (locs : List Loc) (ls : Array Slot), HS D A H0 [(h_0, oX6 h_0_of h_0_kept h_0_column h_0_size h_0_hidden h_0_cell h_0_home h_0_waste h_0_stock h_0_past h_0_start h_0_known h_0_sorted h_0_row h_0_best I_0), (h_0_of, eI cI 9 (I_0 1)), (h_0_kept, eI cI 9 (I_0 2)), (h_0_column, eJ cJ 5 (L_0 0)), (h_0_size, eI cI 5 (I_0 3)), (h_0_hidden, eI cI 5 (I_0 4)), (h_0_cell, eI cI 2 (I_0 5)), (h_0_home, eI cI 4 (I_0 6)), (h_0_waste, eI cI 8 (I_0 7)), (h_0_stock, eI cI 8 (I_0 8)), (h_0_past, eJ cJ 1616 (L_0 1)), (h_0_start, eJ cJ 8 (L_0 2)), (h_0_known, eJ cJ 3216 (L_0 3)), (h_0_sorted, eJ cJ 3216 (L_0 4)), (h_0_row, eI cI 16 (I_0 9)), (h_0_best, eJ cJ 8 (L_0 5))] H locs → lv_has ls 10 [(0, .ref h_0), (1, .ref h_0_past), (2, .int v2), (7, .long v7), (9, .int v9)] → K163 L_0 v2 v7 v9 = some r_L_0 → W p l e ({ frames := 0, cells := 0, slots := 0, locals := 0 } : Room) s m args below meth c H locs 0 0 Q (F0 m 163 ls [])) (L_0 : Nat → Nat → Int64) (v2 : Int32) (v9 : Int32) (s0 : Int64) (s1 : Int64) (H : Heap) (locs : List Loc) (ls : Array Slot), HS D A H0 [(h_0, oX6 h_0_of h_0_kept h_0_column h_0_size h_0_hidden h_0_cell h_0_home h_0_waste h_0_stock h_0_past h_0_start h_0_known h_0_sorted h_0_row h_0_best I_0), (h_0_of, eI cI 9 (I_0 1)), (h_0_kept, eI cI 9 (I_0 2)), (h_0_column, eJ cJ 5 (L_0 0)), (h_0_size, eI cI 5 (I_0 3)), (h_0_hidden, eI cI 5 (I_0 4)), (h_0_cell, eI cI 2 (I_0 5)), (h_0_home, eI cI 4 (I_0 6)), (h_0_waste, eI cI 8 (I_0 7)), (h_0_stock, eI cI 8 (I_0 8)), (h_0_past, eJ cJ 1616 (L_0 1)), (h_0_start, eJ cJ 8 (L_0 2)), (h_0_known, eJ cJ 3216 (L_0 3)), (h_0_sorted, eJ cJ 3216 (L_0 4)), (h_0_row, eI cI 16 (I_0 9)), (h_0_best, eJ cJ 8 (L_0 5))] H locs → lv_has ls 10 [(0, .ref h_0), (1, .ref h_0_past), (2, .int v2), (9, .int v9)] → F_X6_store_b232 I_0 1 1616 K163 L_0 v2 v9 s0 s1 = some r_L_0 → W p l e ({ frames := 0, cells := 0, slots := 0, locals := 0 } : Room) s m args below meth c H locs 0 0 Q (F0 m 232 ls [.long s1, .long s0]) := by
    intro K163 hK163 L_0 v2 v9 s0 s1 H locs ls hS hl hF
    unfold F_X6_store_b232 at hF
    refine lv_lor hx hb dX6_store_232 ?_
    refine lv_lstore (lv' := [(7, .long (s0 ||| s1)), (0, .ref h_0), (1, .ref h_0_past), (2, .int v2), (9, .int v9)]) hx hb dX6_store_233 hl (by decide) rfl (fun ls hl => ?_)
    refine lv_iinc (v := v9 + (nI 1)) (lv' := [(9, .int (v9 + (nI 1))), (7, .long (s0 ||| s1)), (0, .ref h_0), (1, .ref h_0_past), (2, .int v2)]) hx hb dX6_store_235 hl (k := 4) rfl rfl (by decide) rfl (fun ls hl => ?_)
    refine lv_goto (tgt := 163) hx hb dX6_store_238 (by decide) ?_
    exact hK163 L_0 v2 (s0 ||| s1) (v9 + (nI 1)) _ _ _ hS (lv_sub hl [2, 3, 4, 1, 0] rfl) hF
  have B198 : ∀ (K163 : (Nat → Nat → Int64) → Int32 → Int64 → Int32 → Option ((Nat → Nat → Int64))) (_ : ∀ (L_0 : Nat → Nat → Int64) (v2 : Int32) (v7 : Int64) (v9 : Int32) (H : Heap) (locs : List Loc) (ls : Array Slot), HS D A H0 [(h_0, oX6 h_0_of h_0_kept h_0_column h_0_size h_0_hidden h_0_cell h_0_home h_0_waste h_0_stock h_0_past h_0_start h_0_known h_0_sorted h_0_row h_0_best I_0), (h_0_of, eI cI 9 (I_0 1)), (h_0_kept, eI cI 9 (I_0 2)), (h_0_column, eJ cJ 5 (L_0 0)), (h_0_size, eI cI 5 (I_0 3)), (h_0_hidden, eI cI 5 (I_0 4)), (h_0_cell, eI cI 2 (I_0 5)), (h_0_home, eI cI 4 (I_0 6)), (h_0_waste, eI cI 8 (I_0 7)), (h_0_stock, eI cI 8 (I_0 8)), (h_0_past, eJ cJ 1616 (L_0 1)), (h_0_start, eJ cJ 8 (L_0 2)), (h_0_known, eJ cJ 3216 (L_0 3)), (h_0_sorted, eJ cJ 3216 (L_0 4)), (h_0_row, eI cI 16 (I_0 9)), (h_0_best, eJ cJ 8 (L_0 5))] H locs → lv_has ls 10 [(0, .ref h_0), (1, .ref h_0_past), (2, .int v2), (7, .long v7), (9, .int v9)] → K163 L_0 v2 v7 v9 = some r_L_0 → W p l e ({ frames := 0, cells := 0, slots := 0, locals := 0 } : Room) s m args below meth c H locs 0 0 Q (F0 m 163 ls [])) (L_0 : Nat → Nat → Int64) (v2 : Int32) (v9 : Int32) (s0 : Int64) (s1 : Int64) (H : Heap) (locs : List Loc) (ls : Array Slot), HS D A H0 [(h_0, oX6 h_0_of h_0_kept h_0_column h_0_size h_0_hidden h_0_cell h_0_home h_0_waste h_0_stock h_0_past h_0_start h_0_known h_0_sorted h_0_row h_0_best I_0), (h_0_of, eI cI 9 (I_0 1)), (h_0_kept, eI cI 9 (I_0 2)), (h_0_column, eJ cJ 5 (L_0 0)), (h_0_size, eI cI 5 (I_0 3)), (h_0_hidden, eI cI 5 (I_0 4)), (h_0_cell, eI cI 2 (I_0 5)), (h_0_home, eI cI 4 (I_0 6)), (h_0_waste, eI cI 8 (I_0 7)), (h_0_stock, eI cI 8 (I_0 8)), (h_0_past, eJ cJ 1616 (L_0 1)), (h_0_start, eJ cJ 8 (L_0 2)), (h_0_known, eJ cJ 3216 (L_0 3)), (h_0_sorted, eJ cJ 3216 (L_0 4)), (h_0_row, eI cI 16 (I_0 9)), (h_0_best, eJ cJ 8 (L_0 5))] H locs → lv_has ls 10 [(0, .ref h_0), (1, .ref h_0_past), (2, .int v2), (9, .int v9)] → F_X6_store_b198 I_0 1 1616 K163 L_0 v2 v9 s0 s1 = some r_L_0 → W p l e ({ frames := 0, cells := 0, slots := 0, locals := 0 } : Room) s m args below meth c H locs 0 0 Q (F0 m 198 ls [.long s1, .long s0]) := by
    intro K163 hK163 L_0 v2 v9 s0 s1 H locs ls hS hl hF
    unfold F_X6_store_b198 at hF
    refine lv_lor hx hb dX6_store_198 ?_
    refine lv_lstore (lv' := [(7, .long (s0 ||| s1)), (0, .ref h_0), (1, .ref h_0_past), (2, .int v2), (9, .int v9)]) hx hb dX6_store_199 hl (by decide) rfl (fun ls hl => ?_)
    refine lv_lload hx hb dX6_store_201 (lv_at hl 0 rfl) ?_
    refine lv_iload hx hb dX6_store_203 (lv_at hl 4 rfl) ?_
    refine lv_aload_n hx hb dX6_store_205 rfl (lv_at hl 1 rfl) ?_
    refine r_get hx hb hts inX6 hown hK hS 0 23 rfl rfl (by decide) q0 rfl dX6_store_206 ?_
    refine lv_icmp_ge (tgt := 231) hx hb dX6_store_209 (by decide) (fun c_3 => ?_) (fun c_3 => ?_)
    · replace hF := ifp hF c_3
      refine lv_lconst (v := (lN 0)) hx hb dX6_store_231 (by decide) ?_
      exact B232 K163 hK163 L_0 v2 v9 (s0 ||| s1) (lN 0) _ _ _ hS (lv_sub hl [1, 2, 3, 4] rfl) hF
    · replace hF := ifn hF c_3
      refine lv_aload_n hx hb dX6_store_212 rfl (lv_at hl 1 rfl) ?_
      refine r_get hx hb hts inX6 hown hK hS 0 22 rfl rfl (by decide) q2 rfl dX6_store_213 ?_
      refine lv_iload hx hb dX6_store_216 (lv_at hl 4 rfl) ?_
      replace hF := rdA_e hF
      obtain ⟨hi5, x4, ex4, hF⟩ := hF
      refine r_iald hx hb hK hS 9 rfl rfl hi5 dX6_store_218 ex4 ?_
      refine lv_i2l hx hb dX6_store_219 rfl ?_
      refine lv_bipush (v := (nI 32)) hx hb dX6_store_220 (by decide) ?_
      refine lv_iconst (v := (nI 4)) hx hb dX6_store_222 (by decide) ?_
      refine lv_iload hx hb dX6_store_223 (lv_at hl 4 rfl) ?_
      refine lv_imul hx hb dX6_store_225 ?_
      refine lv_iadd hx hb dX6_store_226 ?_
      refine lv_lshl hx hb dX6_store_227 rfl ?_
      refine lv_goto (tgt := 232) hx hb dX6_store_228 (by decide) ?_
      exact B232 K163 hK163 L_0 v2 v9 (s0 ||| s1) ((x4.toInt64) <<< ((((nI 32) + ((nI 4) * v9)) : Int32).toInt64 &&& 63)) _ _ _ hS (lv_sub hl [1, 2, 3, 4] rfl) hF
  have S163 : ∀ (K163 : (Nat → Nat → Int64) → Int32 → Int64 → Int32 → Option ((Nat → Nat → Int64))) (_ : ∀ (L_0 : Nat → Nat → Int64) (v2 : Int32) (v7 : Int64) (v9 : Int32) (H : Heap) (locs : List Loc) (ls : Array Slot), HS D A H0 [(h_0, oX6 h_0_of h_0_kept h_0_column h_0_size h_0_hidden h_0_cell h_0_home h_0_waste h_0_stock h_0_past h_0_start h_0_known h_0_sorted h_0_row h_0_best I_0), (h_0_of, eI cI 9 (I_0 1)), (h_0_kept, eI cI 9 (I_0 2)), (h_0_column, eJ cJ 5 (L_0 0)), (h_0_size, eI cI 5 (I_0 3)), (h_0_hidden, eI cI 5 (I_0 4)), (h_0_cell, eI cI 2 (I_0 5)), (h_0_home, eI cI 4 (I_0 6)), (h_0_waste, eI cI 8 (I_0 7)), (h_0_stock, eI cI 8 (I_0 8)), (h_0_past, eJ cJ 1616 (L_0 1)), (h_0_start, eJ cJ 8 (L_0 2)), (h_0_known, eJ cJ 3216 (L_0 3)), (h_0_sorted, eJ cJ 3216 (L_0 4)), (h_0_row, eI cI 16 (I_0 9)), (h_0_best, eJ cJ 8 (L_0 5))] H locs → lv_has ls 10 [(0, .ref h_0), (1, .ref h_0_past), (2, .int v2), (7, .long v7), (9, .int v9)] → K163 L_0 v2 v7 v9 = some r_L_0 → W p l e ({ frames := 0, cells := 0, slots := 0, locals := 0 } : Room) s m args below meth c H locs 0 0 Q (F0 m 163 ls [])) (L_0 : Nat → Nat → Int64) (v2 : Int32) (v7 : Int64) (v9 : Int32) (H : Heap) (locs : List Loc) (ls : Array Slot), HS D A H0 [(h_0, oX6 h_0_of h_0_kept h_0_column h_0_size h_0_hidden h_0_cell h_0_home h_0_waste h_0_stock h_0_past h_0_start h_0_known h_0_sorted h_0_row h_0_best I_0), (h_0_of, eI cI 9 (I_0 1)), (h_0_kept, eI cI 9 (I_0 2)), (h_0_column, eJ cJ 5 (L_0 0)), (h_0_size, eI cI 5 (I_0 3)), (h_0_hidden, eI cI 5 (I_0 4)), (h_0_cell, eI cI 2 (I_0 5)), (h_0_home, eI cI 4 (I_0 6)), (h_0_waste, eI cI 8 (I_0 7)), (h_0_stock, eI cI 8 (I_0 8)), (h_0_past, eJ cJ 1616 (L_0 1)), (h_0_start, eJ cJ 8 (L_0 2)), (h_0_known, eJ cJ 3216 (L_0 3)), (h_0_sorted, eJ cJ 3216 (L_0 4)), (h_0_row, eI cI 16 (I_0 9)), (h_0_best, eJ cJ 8 (L_0 5))] H locs → lv_has ls 10 [(0, .ref h_0), (1, .ref h_0_past), (2, .int v2), (7, .long v7), (9, .int v9)] → F_X6_store_s163 I_0 1 1616 K163 L_0 v2 v7 v9 = some r_L_0 → W p l e ({ frames := 0, cells := 0, slots := 0, locals := 0 } : Room) s m args below meth c H locs 0 0 Q (F0 m 163 ls []) := by
    intro K163 hK163 L_0 v2 v7 v9 H locs ls hS hl hF
    unfold F_X6_store_s163 at hF
    refine lv_iload hx hb dX6_store_163 (lv_at hl 4 rfl) ?_
    refine lv_bipush (v := (nI 8)) hx hb dX6_store_165 (by decide) ?_
    refine lv_icmp_ge (tgt := 241) hx hb dX6_store_167 (by decide) (fun c_6 => ?_) (fun c_6 => ?_)
    · replace hF := ifp hF c_6
      exact B241 L_0 v2 v7 _ _ _ hS (lv_sub hl [1, 2, 3] rfl) hF
    · replace hF := ifn hF c_6
      refine lv_lload hx hb dX6_store_170 (lv_at hl 3 rfl) ?_
      refine lv_iload hx hb dX6_store_172 (lv_at hl 4 rfl) ?_
      refine lv_aload_n hx hb dX6_store_174 rfl (lv_at hl 0 rfl) ?_
      refine r_get hx hb hts inX6 hown hK hS 0 21 rfl rfl (by decide) q3 rfl dX6_store_175 ?_
      refine lv_icmp_ge (tgt := 197) hx hb dX6_store_178 (by decide) (fun c_7 => ?_) (fun c_7 => ?_)
      · replace hF := ifp hF c_7
        refine lv_lconst (v := (lN 0)) hx hb dX6_store_197 (by decide) ?_
        exact B198 K163 hK163 L_0 v2 v9 v7 (lN 0) _ _ _ hS (lv_sub hl [0, 1, 2, 4] rfl) hF
      · replace hF := ifn hF c_7
        refine lv_aload_n hx hb dX6_store_181 rfl (lv_at hl 0 rfl) ?_
        refine r_get hx hb hts inX6 hown hK hS 0 20 rfl rfl (by decide) q4 rfl dX6_store_182 ?_
        refine lv_iload hx hb dX6_store_185 (lv_at hl 4 rfl) ?_
        replace hF := rdA_e hF
        obtain ⟨hi9, x8, ex8, hF⟩ := hF
        refine r_iald hx hb hK hS 8 rfl rfl hi9 dX6_store_187 ex8 ?_
        refine lv_i2l hx hb dX6_store_188 rfl ?_
        refine lv_iconst (v := (nI 4)) hx hb dX6_store_189 (by decide) ?_
        refine lv_iload hx hb dX6_store_190 (lv_at hl 4 rfl) ?_
        refine lv_imul hx hb dX6_store_192 ?_
        refine lv_lshl hx hb dX6_store_193 rfl ?_
        refine lv_goto (tgt := 198) hx hb dX6_store_194 (by decide) ?_
        exact B198 K163 hK163 L_0 v2 v9 v7 ((x8.toInt64) <<< ((((nI 4) * v9) : Int32).toInt64 &&& 63)) _ _ _ hS (lv_sub hl [0, 1, 2, 4] rfl) hF
  have L163 : ∀  (n : Nat) (L_0 : Nat → Nat → Int64) (v2 : Int32) (v7 : Int64) (v9 : Int32) (H : Heap) (locs : List Loc) (ls : Array Slot), HS D A H0 [(h_0, oX6 h_0_of h_0_kept h_0_column h_0_size h_0_hidden h_0_cell h_0_home h_0_waste h_0_stock h_0_past h_0_start h_0_known h_0_sorted h_0_row h_0_best I_0), (h_0_of, eI cI 9 (I_0 1)), (h_0_kept, eI cI 9 (I_0 2)), (h_0_column, eJ cJ 5 (L_0 0)), (h_0_size, eI cI 5 (I_0 3)), (h_0_hidden, eI cI 5 (I_0 4)), (h_0_cell, eI cI 2 (I_0 5)), (h_0_home, eI cI 4 (I_0 6)), (h_0_waste, eI cI 8 (I_0 7)), (h_0_stock, eI cI 8 (I_0 8)), (h_0_past, eJ cJ 1616 (L_0 1)), (h_0_start, eJ cJ 8 (L_0 2)), (h_0_known, eJ cJ 3216 (L_0 3)), (h_0_sorted, eJ cJ 3216 (L_0 4)), (h_0_row, eI cI 16 (I_0 9)), (h_0_best, eJ cJ 8 (L_0 5))] H locs → lv_has ls 10 [(0, .ref h_0), (1, .ref h_0_past), (2, .int v2), (7, .long v7), (9, .int v9)] → F_X6_store_L163 I_0 1 1616  n L_0 v2 v7 v9 = some r_L_0 → W p l e ({ frames := 0, cells := 0, slots := 0, locals := 0 } : Room) s m args below meth c H locs 0 0 Q (F0 m 163 ls []) := by
    intro  n
    induction n with
    | zero => intro L_0 v2 v7 v9 H locs ls hS hl hF; exact nomatch (show (none : Option ((Nat → Nat → Int64))) = some _ from hF)
    | succ n ih => intro L_0 v2 v7 v9 H locs ls hS hl hF; exact S163  _ ih L_0 v2 v7 v9 H locs ls hS hl hF
  have B149 : ∀ (L_0 : Nat → Nat → Int64) (v2 : Int32) (v5 : Int64) (H : Heap) (locs : List Loc) (ls : Array Slot), HS D A H0 [(h_0, oX6 h_0_of h_0_kept h_0_column h_0_size h_0_hidden h_0_cell h_0_home h_0_waste h_0_stock h_0_past h_0_start h_0_known h_0_sorted h_0_row h_0_best I_0), (h_0_of, eI cI 9 (I_0 1)), (h_0_kept, eI cI 9 (I_0 2)), (h_0_column, eJ cJ 5 (L_0 0)), (h_0_size, eI cI 5 (I_0 3)), (h_0_hidden, eI cI 5 (I_0 4)), (h_0_cell, eI cI 2 (I_0 5)), (h_0_home, eI cI 4 (I_0 6)), (h_0_waste, eI cI 8 (I_0 7)), (h_0_stock, eI cI 8 (I_0 8)), (h_0_past, eJ cJ 1616 (L_0 1)), (h_0_start, eJ cJ 8 (L_0 2)), (h_0_known, eJ cJ 3216 (L_0 3)), (h_0_sorted, eJ cJ 3216 (L_0 4)), (h_0_row, eI cI 16 (I_0 9)), (h_0_best, eJ cJ 8 (L_0 5))] H locs → lv_has ls 10 [(0, .ref h_0), (1, .ref h_0_past), (2, .int v2), (5, .long v5)] → F_X6_store_b149 I_0 1 1616  L_0 v2 v5 = some r_L_0 → W p l e ({ frames := 0, cells := 0, slots := 0, locals := 0 } : Room) s m args below meth c H locs 0 0 Q (F0 m 149 ls []) := by
    intro L_0 v2 v5 H locs ls hS hl hF
    unfold F_X6_store_b149 at hF
    refine lv_aload_n hx hb dX6_store_149 rfl (lv_at hl 1 rfl) ?_
    refine lv_iload_n hx hb dX6_store_150 rfl (lv_at hl 2 rfl) ?_
    refine lv_bipush (v := (nI 6)) hx hb dX6_store_151 (by decide) ?_
    refine lv_iadd hx hb dX6_store_153 ?_
    refine lv_lload hx hb dX6_store_154 (lv_at hl 3 rfl) ?_
    replace hF := wrJ_e hF
    obtain ⟨hi11, L_0u10, eL_0u10, hF⟩ := hF
    refine r_last (w2 := [(h_0, oX6 h_0_of h_0_kept h_0_column h_0_size h_0_hidden h_0_cell h_0_home h_0_waste h_0_stock h_0_past h_0_start h_0_known h_0_sorted h_0_row h_0_best I_0), (h_0_of, eI cI 9 (I_0 1)), (h_0_kept, eI cI 9 (I_0 2)), (h_0_column, eJ cJ 5 (L_0u10 0)), (h_0_size, eI cI 5 (I_0 3)), (h_0_hidden, eI cI 5 (I_0 4)), (h_0_cell, eI cI 2 (I_0 5)), (h_0_home, eI cI 4 (I_0 6)), (h_0_waste, eI cI 8 (I_0 7)), (h_0_stock, eI cI 8 (I_0 8)), (h_0_past, eJ cJ 1616 (L_0u10 1)), (h_0_start, eJ cJ 8 (L_0u10 2)), (h_0_known, eJ cJ 3216 (L_0u10 3)), (h_0_sorted, eJ cJ 3216 (L_0u10 4)), (h_0_row, eI cI 16 (I_0 9)), (h_0_best, eJ cJ 8 (L_0u10 5))]) hx hb hK hS 10 rfl rfl hi11 dX6_store_156 (by rw [eL_0u10]; rfl) (fun H locs hS => ?_)
    refine lv_lconst (v := (lN 0)) hx hb dX6_store_157 (by decide) ?_
    refine lv_lstore (lv' := [(7, .long (lN 0)), (0, .ref h_0), (1, .ref h_0_past), (2, .int v2), (5, .long v5)]) hx hb dX6_store_158 hl (by decide) rfl (fun ls hl => ?_)
    refine lv_iconst (v := (nI 0)) hx hb dX6_store_160 (by decide) ?_
    refine lv_istore (lv' := [(9, .int (nI 0)), (7, .long (lN 0)), (0, .ref h_0), (1, .ref h_0_past), (2, .int v2), (5, .long v5)]) hx hb dX6_store_161 hl (by decide) rfl (fun ls hl => ?_)
    exact L163 FU L_0u10 v2 (lN 0) (nI 0) _ _ _ hS (lv_sub hl [2, 3, 4, 1, 0] rfl) hF
  have S116 : ∀ (K116 : (Nat → Nat → Int64) → Int32 → Int64 → Int32 → Option ((Nat → Nat → Int64))) (_ : ∀ (L_0 : Nat → Nat → Int64) (v2 : Int32) (v5 : Int64) (v7 : Int32) (H : Heap) (locs : List Loc) (ls : Array Slot), HS D A H0 [(h_0, oX6 h_0_of h_0_kept h_0_column h_0_size h_0_hidden h_0_cell h_0_home h_0_waste h_0_stock h_0_past h_0_start h_0_known h_0_sorted h_0_row h_0_best I_0), (h_0_of, eI cI 9 (I_0 1)), (h_0_kept, eI cI 9 (I_0 2)), (h_0_column, eJ cJ 5 (L_0 0)), (h_0_size, eI cI 5 (I_0 3)), (h_0_hidden, eI cI 5 (I_0 4)), (h_0_cell, eI cI 2 (I_0 5)), (h_0_home, eI cI 4 (I_0 6)), (h_0_waste, eI cI 8 (I_0 7)), (h_0_stock, eI cI 8 (I_0 8)), (h_0_past, eJ cJ 1616 (L_0 1)), (h_0_start, eJ cJ 8 (L_0 2)), (h_0_known, eJ cJ 3216 (L_0 3)), (h_0_sorted, eJ cJ 3216 (L_0 4)), (h_0_row, eI cI 16 (I_0 9)), (h_0_best, eJ cJ 8 (L_0 5))] H locs → lv_has ls 10 [(0, .ref h_0), (1, .ref h_0_past), (2, .int v2), (5, .long v5), (7, .int v7)] → K116 L_0 v2 v5 v7 = some r_L_0 → W p l e ({ frames := 0, cells := 0, slots := 0, locals := 0 } : Room) s m args below meth c H locs 0 0 Q (F0 m 116 ls [])) (L_0 : Nat → Nat → Int64) (v2 : Int32) (v5 : Int64) (v7 : Int32) (H : Heap) (locs : List Loc) (ls : Array Slot), HS D A H0 [(h_0, oX6 h_0_of h_0_kept h_0_column h_0_size h_0_hidden h_0_cell h_0_home h_0_waste h_0_stock h_0_past h_0_start h_0_known h_0_sorted h_0_row h_0_best I_0), (h_0_of, eI cI 9 (I_0 1)), (h_0_kept, eI cI 9 (I_0 2)), (h_0_column, eJ cJ 5 (L_0 0)), (h_0_size, eI cI 5 (I_0 3)), (h_0_hidden, eI cI 5 (I_0 4)), (h_0_cell, eI cI 2 (I_0 5)), (h_0_home, eI cI 4 (I_0 6)), (h_0_waste, eI cI 8 (I_0 7)), (h_0_stock, eI cI 8 (I_0 8)), (h_0_past, eJ cJ 1616 (L_0 1)), (h_0_start, eJ cJ 8 (L_0 2)), (h_0_known, eJ cJ 3216 (L_0 3)), (h_0_sorted, eJ cJ 3216 (L_0 4)), (h_0_row, eI cI 16 (I_0 9)), (h_0_best, eJ cJ 8 (L_0 5))] H locs → lv_has ls 10 [(0, .ref h_0), (1, .ref h_0_past), (2, .int v2), (5, .long v5), (7, .int v7)] → F_X6_store_s116 I_0 1 1616 K116 L_0 v2 v5 v7 = some r_L_0 → W p l e ({ frames := 0, cells := 0, slots := 0, locals := 0 } : Room) s m args below meth c H locs 0 0 Q (F0 m 116 ls []) := by
    intro K116 hK116 L_0 v2 v5 v7 H locs ls hS hl hF
    unfold F_X6_store_s116 at hF
    refine lv_iload hx hb dX6_store_116 (lv_at hl 4 rfl) ?_
    refine lv_iconst (v := (nI 4)) hx hb dX6_store_118 (by decide) ?_
    refine lv_icmp_ge (tgt := 149) hx hb dX6_store_119 (by decide) (fun c_12 => ?_) (fun c_12 => ?_)
    · replace hF := ifp hF c_12
      exact B149 L_0 v2 v5 _ _ _ hS (lv_sub hl [0, 1, 2, 3] rfl) hF
    · replace hF := ifn hF c_12
      refine lv_lload hx hb dX6_store_122 (lv_at hl 3 rfl) ?_
      refine lv_aload_n hx hb dX6_store_124 rfl (lv_at hl 0 rfl) ?_
      refine r_get hx hb hts inX6 hown hK hS 0 19 rfl rfl (by decide) q5 rfl dX6_store_125 ?_
      refine lv_iload hx hb dX6_store_128 (lv_at hl 4 rfl) ?_
      replace hF := rdA_e hF
      obtain ⟨hi14, x13, ex13, hF⟩ := hF
      refine r_iald hx hb hK hS 7 rfl rfl hi14 dX6_store_130 ex13 ?_
      refine lv_i2l hx hb dX6_store_131 rfl ?_
      refine lv_bipush (v := (nI 20)) hx hb dX6_store_132 (by decide) ?_
      refine lv_iconst (v := (nI 3)) hx hb dX6_store_134 (by decide) ?_
      refine lv_iload hx hb dX6_store_135 (lv_at hl 4 rfl) ?_
      refine lv_imul hx hb dX6_store_137 ?_
      refine lv_iadd hx hb dX6_store_138 ?_
      refine lv_lshl hx hb dX6_store_139 rfl ?_
      refine lv_lor hx hb dX6_store_140 ?_
      refine lv_lstore (lv' := [(5, .long (v5 ||| ((x13.toInt64) <<< ((((nI 20) + ((nI 3) * v7)) : Int32).toInt64 &&& 63)))), (0, .ref h_0), (1, .ref h_0_past), (2, .int v2), (7, .int v7)]) hx hb dX6_store_141 hl (by decide) rfl (fun ls hl => ?_)
      refine lv_iinc (v := v7 + (nI 1)) (lv' := [(7, .int (v7 + (nI 1))), (5, .long (v5 ||| ((x13.toInt64) <<< ((((nI 20) + ((nI 3) * v7)) : Int32).toInt64 &&& 63)))), (0, .ref h_0), (1, .ref h_0_past), (2, .int v2)]) hx hb dX6_store_143 hl (k := 4) rfl rfl (by decide) rfl (fun ls hl => ?_)
      refine lv_goto (tgt := 116) hx hb dX6_store_146 (by decide) ?_
      exact hK116 L_0 v2 (v5 ||| ((x13.toInt64) <<< ((((nI 20) + ((nI 3) * v7)) : Int32).toInt64 &&& 63))) (v7 + (nI 1)) _ _ _ hS (lv_sub hl [2, 3, 4, 1, 0] rfl) hF
  have L116 : ∀  (n : Nat) (L_0 : Nat → Nat → Int64) (v2 : Int32) (v5 : Int64) (v7 : Int32) (H : Heap) (locs : List Loc) (ls : Array Slot), HS D A H0 [(h_0, oX6 h_0_of h_0_kept h_0_column h_0_size h_0_hidden h_0_cell h_0_home h_0_waste h_0_stock h_0_past h_0_start h_0_known h_0_sorted h_0_row h_0_best I_0), (h_0_of, eI cI 9 (I_0 1)), (h_0_kept, eI cI 9 (I_0 2)), (h_0_column, eJ cJ 5 (L_0 0)), (h_0_size, eI cI 5 (I_0 3)), (h_0_hidden, eI cI 5 (I_0 4)), (h_0_cell, eI cI 2 (I_0 5)), (h_0_home, eI cI 4 (I_0 6)), (h_0_waste, eI cI 8 (I_0 7)), (h_0_stock, eI cI 8 (I_0 8)), (h_0_past, eJ cJ 1616 (L_0 1)), (h_0_start, eJ cJ 8 (L_0 2)), (h_0_known, eJ cJ 3216 (L_0 3)), (h_0_sorted, eJ cJ 3216 (L_0 4)), (h_0_row, eI cI 16 (I_0 9)), (h_0_best, eJ cJ 8 (L_0 5))] H locs → lv_has ls 10 [(0, .ref h_0), (1, .ref h_0_past), (2, .int v2), (5, .long v5), (7, .int v7)] → F_X6_store_L116 I_0 1 1616  n L_0 v2 v5 v7 = some r_L_0 → W p l e ({ frames := 0, cells := 0, slots := 0, locals := 0 } : Room) s m args below meth c H locs 0 0 Q (F0 m 116 ls []) := by
    intro  n
    induction n with
    | zero => intro L_0 v2 v5 v7 H locs ls hS hl hF; exact nomatch (show (none : Option ((Nat → Nat → Int64))) = some _ from hF)
    | succ n ih => intro L_0 v2 v5 v7 H locs ls hS hl hF; exact S116  _ ih L_0 v2 v5 v7 H locs ls hS hl hF
  have B57 : ∀ (L_0 : Nat → Nat → Int64) (v2 : Int32) (v3 : Int64) (H : Heap) (locs : List Loc) (ls : Array Slot), HS D A H0 [(h_0, oX6 h_0_of h_0_kept h_0_column h_0_size h_0_hidden h_0_cell h_0_home h_0_waste h_0_stock h_0_past h_0_start h_0_known h_0_sorted h_0_row h_0_best I_0), (h_0_of, eI cI 9 (I_0 1)), (h_0_kept, eI cI 9 (I_0 2)), (h_0_column, eJ cJ 5 (L_0 0)), (h_0_size, eI cI 5 (I_0 3)), (h_0_hidden, eI cI 5 (I_0 4)), (h_0_cell, eI cI 2 (I_0 5)), (h_0_home, eI cI 4 (I_0 6)), (h_0_waste, eI cI 8 (I_0 7)), (h_0_stock, eI cI 8 (I_0 8)), (h_0_past, eJ cJ 1616 (L_0 1)), (h_0_start, eJ cJ 8 (L_0 2)), (h_0_known, eJ cJ 3216 (L_0 3)), (h_0_sorted, eJ cJ 3216 (L_0 4)), (h_0_row, eI cI 16 (I_0 9)), (h_0_best, eJ cJ 8 (L_0 5))] H locs → lv_has ls 10 [(0, .ref h_0), (1, .ref h_0_past), (2, .int v2), (3, .long v3)] → F_X6_store_b57 I_0 1 1616  L_0 v2 v3 = some r_L_0 → W p l e ({ frames := 0, cells := 0, slots := 0, locals := 0 } : Room) s m args below meth c H locs 0 0 Q (F0 m 57 ls []) := by
    intro L_0 v2 v3 H locs ls hS hl hF
    unfold F_X6_store_b57 at hF
    refine lv_aload_n hx hb dX6_store_57 rfl (lv_at hl 1 rfl) ?_
    refine lv_iload_n hx hb dX6_store_58 rfl (lv_at hl 2 rfl) ?_
    refine lv_iconst (v := (nI 5)) hx hb dX6_store_59 (by decide) ?_
    refine lv_iadd hx hb dX6_store_60 ?_
    refine lv_lload_n hx hb dX6_store_61 rfl (lv_at hl 3 rfl) ?_
    replace hF := wrJ_e hF
    obtain ⟨hi16, L_0u15, eL_0u15, hF⟩ := hF
    refine r_last (w2 := [(h_0, oX6 h_0_of h_0_kept h_0_column h_0_size h_0_hidden h_0_cell h_0_home h_0_waste h_0_stock h_0_past h_0_start h_0_known h_0_sorted h_0_row h_0_best I_0), (h_0_of, eI cI 9 (I_0 1)), (h_0_kept, eI cI 9 (I_0 2)), (h_0_column, eJ cJ 5 (L_0u15 0)), (h_0_size, eI cI 5 (I_0 3)), (h_0_hidden, eI cI 5 (I_0 4)), (h_0_cell, eI cI 2 (I_0 5)), (h_0_home, eI cI 4 (I_0 6)), (h_0_waste, eI cI 8 (I_0 7)), (h_0_stock, eI cI 8 (I_0 8)), (h_0_past, eJ cJ 1616 (L_0u15 1)), (h_0_start, eJ cJ 8 (L_0u15 2)), (h_0_known, eJ cJ 3216 (L_0u15 3)), (h_0_sorted, eJ cJ 3216 (L_0u15 4)), (h_0_row, eI cI 16 (I_0 9)), (h_0_best, eJ cJ 8 (L_0u15 5))]) hx hb hK hS 10 rfl rfl hi16 dX6_store_62 (by rw [eL_0u15]; rfl) (fun H locs hS => ?_)
    refine lv_aload_n hx hb dX6_store_63 rfl (lv_at hl 0 rfl) ?_
    refine r_get hx hb hts inX6 hown hK hS 0 18 rfl rfl (by decide) q6 rfl dX6_store_64 ?_
    refine lv_iconst (v := (nI 0)) hx hb dX6_store_67 (by decide) ?_
    replace hF := rdA_e hF
    obtain ⟨hi18, x17, ex17, hF⟩ := hF
    refine r_iald hx hb hK hS 6 rfl rfl hi18 dX6_store_68 ex17 ?_
    refine lv_i2l hx hb dX6_store_69 rfl ?_
    refine lv_lconst (v := (lN 1)) hx hb dX6_store_70 (by decide) ?_
    refine lv_ladd hx hb dX6_store_71 ?_
    refine lv_aload_n hx hb dX6_store_72 rfl (lv_at hl 0 rfl) ?_
    refine r_get hx hb hts inX6 hown hK hS 0 18 rfl rfl (by decide) q6 rfl dX6_store_73 ?_
    refine lv_iconst (v := (nI 1)) hx hb dX6_store_76 (by decide) ?_
    replace hF := rdA_e hF
    obtain ⟨hi20, x19, ex19, hF⟩ := hF
    refine r_iald hx hb hK hS 6 rfl rfl hi20 dX6_store_77 ex19 ?_
    refine lv_i2l hx hb dX6_store_78 rfl ?_
    refine lv_lconst (v := (lN 1)) hx hb dX6_store_79 (by decide) ?_
    refine lv_ladd hx hb dX6_store_80 ?_
    refine lv_iconst (v := (nI 5)) hx hb dX6_store_81 (by decide) ?_
    refine lv_lshl hx hb dX6_store_82 rfl ?_
    refine lv_lor hx hb dX6_store_83 ?_
    refine lv_aload_n hx hb dX6_store_84 rfl (lv_at hl 0 rfl) ?_
    refine r_get hx hb hts inX6 hown hK hS 0 24 rfl rfl (by decide) q7 rfl dX6_store_85 ?_
    refine lv_i2l hx hb dX6_store_88 rfl ?_
    refine lv_bipush (v := (nI 10)) hx hb dX6_store_89 (by decide) ?_
    refine lv_lshl hx hb dX6_store_91 rfl ?_
    refine lv_lor hx hb dX6_store_92 ?_
    refine lv_aload_n hx hb dX6_store_93 rfl (lv_at hl 0 rfl) ?_
    refine r_get hx hb hts inX6 hown hK hS 0 21 rfl rfl (by decide) q3 rfl dX6_store_94 ?_
    refine lv_i2l hx hb dX6_store_97 rfl ?_
    refine lv_bipush (v := (nI 12)) hx hb dX6_store_98 (by decide) ?_
    refine lv_lshl hx hb dX6_store_100 rfl ?_
    refine lv_lor hx hb dX6_store_101 ?_
    refine lv_aload_n hx hb dX6_store_102 rfl (lv_at hl 0 rfl) ?_
    refine r_get hx hb hts inX6 hown hK hS 0 23 rfl rfl (by decide) q0 rfl dX6_store_103 ?_
    refine lv_i2l hx hb dX6_store_106 rfl ?_
    refine lv_bipush (v := (nI 16)) hx hb dX6_store_107 (by decide) ?_
    refine lv_lshl hx hb dX6_store_109 rfl ?_
    refine lv_lor hx hb dX6_store_110 ?_
    refine lv_lstore (lv' := [(5, .long ((((((x17.toInt64) + (lN 1)) ||| (((x19.toInt64) + (lN 1)) <<< (((nI 5) : Int32).toInt64 &&& 63))) ||| ((((I_0 0 24) : Int32).toInt64) <<< (((nI 10) : Int32).toInt64 &&& 63))) ||| ((((I_0 0 21) : Int32).toInt64) <<< (((nI 12) : Int32).toInt64 &&& 63))) ||| ((((I_0 0 23) : Int32).toInt64) <<< (((nI 16) : Int32).toInt64 &&& 63)))), (0, .ref h_0), (1, .ref h_0_past), (2, .int v2), (3, .long v3)]) hx hb dX6_store_111 hl (by decide) rfl (fun ls hl => ?_)
    refine lv_iconst (v := (nI 0)) hx hb dX6_store_113 (by decide) ?_
    refine lv_istore (lv' := [(7, .int (nI 0)), (5, .long ((((((x17.toInt64) + (lN 1)) ||| (((x19.toInt64) + (lN 1)) <<< (((nI 5) : Int32).toInt64 &&& 63))) ||| ((((I_0 0 24) : Int32).toInt64) <<< (((nI 10) : Int32).toInt64 &&& 63))) ||| ((((I_0 0 21) : Int32).toInt64) <<< (((nI 12) : Int32).toInt64 &&& 63))) ||| ((((I_0 0 23) : Int32).toInt64) <<< (((nI 16) : Int32).toInt64 &&& 63)))), (0, .ref h_0), (1, .ref h_0_past), (2, .int v2), (3, .long v3)]) hx hb dX6_store_114 hl (by decide) rfl (fun ls hl => ?_)
    exact L116 FU L_0u15 v2 ((((((x17.toInt64) + (lN 1)) ||| (((x19.toInt64) + (lN 1)) <<< (((nI 5) : Int32).toInt64 &&& 63))) ||| ((((I_0 0 24) : Int32).toInt64) <<< (((nI 10) : Int32).toInt64 &&& 63))) ||| ((((I_0 0 21) : Int32).toInt64) <<< (((nI 12) : Int32).toInt64 &&& 63))) ||| ((((I_0 0 23) : Int32).toInt64) <<< (((nI 16) : Int32).toInt64 &&& 63))) (nI 0) _ _ _ hS (lv_sub hl [2, 3, 4, 1, 0] rfl) hF
  have S5 : ∀ (K5 : (Nat → Nat → Int64) → Int32 → Int64 → Int32 → Option ((Nat → Nat → Int64))) (_ : ∀ (L_0 : Nat → Nat → Int64) (v2 : Int32) (v3 : Int64) (v5 : Int32) (H : Heap) (locs : List Loc) (ls : Array Slot), HS D A H0 [(h_0, oX6 h_0_of h_0_kept h_0_column h_0_size h_0_hidden h_0_cell h_0_home h_0_waste h_0_stock h_0_past h_0_start h_0_known h_0_sorted h_0_row h_0_best I_0), (h_0_of, eI cI 9 (I_0 1)), (h_0_kept, eI cI 9 (I_0 2)), (h_0_column, eJ cJ 5 (L_0 0)), (h_0_size, eI cI 5 (I_0 3)), (h_0_hidden, eI cI 5 (I_0 4)), (h_0_cell, eI cI 2 (I_0 5)), (h_0_home, eI cI 4 (I_0 6)), (h_0_waste, eI cI 8 (I_0 7)), (h_0_stock, eI cI 8 (I_0 8)), (h_0_past, eJ cJ 1616 (L_0 1)), (h_0_start, eJ cJ 8 (L_0 2)), (h_0_known, eJ cJ 3216 (L_0 3)), (h_0_sorted, eJ cJ 3216 (L_0 4)), (h_0_row, eI cI 16 (I_0 9)), (h_0_best, eJ cJ 8 (L_0 5))] H locs → lv_has ls 10 [(0, .ref h_0), (1, .ref h_0_past), (2, .int v2), (3, .long v3), (5, .int v5)] → K5 L_0 v2 v3 v5 = some r_L_0 → W p l e ({ frames := 0, cells := 0, slots := 0, locals := 0 } : Room) s m args below meth c H locs 0 0 Q (F0 m 5 ls [])) (L_0 : Nat → Nat → Int64) (v2 : Int32) (v3 : Int64) (v5 : Int32) (H : Heap) (locs : List Loc) (ls : Array Slot), HS D A H0 [(h_0, oX6 h_0_of h_0_kept h_0_column h_0_size h_0_hidden h_0_cell h_0_home h_0_waste h_0_stock h_0_past h_0_start h_0_known h_0_sorted h_0_row h_0_best I_0), (h_0_of, eI cI 9 (I_0 1)), (h_0_kept, eI cI 9 (I_0 2)), (h_0_column, eJ cJ 5 (L_0 0)), (h_0_size, eI cI 5 (I_0 3)), (h_0_hidden, eI cI 5 (I_0 4)), (h_0_cell, eI cI 2 (I_0 5)), (h_0_home, eI cI 4 (I_0 6)), (h_0_waste, eI cI 8 (I_0 7)), (h_0_stock, eI cI 8 (I_0 8)), (h_0_past, eJ cJ 1616 (L_0 1)), (h_0_start, eJ cJ 8 (L_0 2)), (h_0_known, eJ cJ 3216 (L_0 3)), (h_0_sorted, eJ cJ 3216 (L_0 4)), (h_0_row, eI cI 16 (I_0 9)), (h_0_best, eJ cJ 8 (L_0 5))] H locs → lv_has ls 10 [(0, .ref h_0), (1, .ref h_0_past), (2, .int v2), (3, .long v3), (5, .int v5)] → F_X6_store_s5 I_0 1 1616 K5 L_0 v2 v3 v5 = some r_L_0 → W p l e ({ frames := 0, cells := 0, slots := 0, locals := 0 } : Room) s m args below meth c H locs 0 0 Q (F0 m 5 ls []) := by
    intro K5 hK5 L_0 v2 v3 v5 H locs ls hS hl hF
    unfold F_X6_store_s5 at hF
    refine lv_iload hx hb dX6_store_5 (lv_at hl 4 rfl) ?_
    refine lv_iconst (v := (nI 5)) hx hb dX6_store_7 (by decide) ?_
    refine lv_icmp_ge (tgt := 57) hx hb dX6_store_8 (by decide) (fun c_21 => ?_) (fun c_21 => ?_)
    · replace hF := ifp hF c_21
      exact B57 L_0 v2 v3 _ _ _ hS (lv_sub hl [0, 1, 2, 3] rfl) hF
    · replace hF := ifn hF c_21
      refine lv_aload_n hx hb dX6_store_11 rfl (lv_at hl 1 rfl) ?_
      refine lv_iload_n hx hb dX6_store_12 rfl (lv_at hl 2 rfl) ?_
      refine lv_iload hx hb dX6_store_13 (lv_at hl 4 rfl) ?_
      refine lv_iadd hx hb dX6_store_15 ?_
      refine lv_aload_n hx hb dX6_store_16 rfl (lv_at hl 0 rfl) ?_
      refine r_get hx hb hts inX6 hown hK hS 0 15 rfl rfl (by decide) q8 rfl dX6_store_17 ?_
      refine lv_iload hx hb dX6_store_20 (lv_at hl 4 rfl) ?_
      replace hF := rdA_e hF
      obtain ⟨hi23, x22, ex22, hF⟩ := hF
      refine r_lald hx hb hK hS 3 rfl rfl hi23 dX6_store_22 ex22 ?_
      replace hF := wrJ_e hF
      obtain ⟨hi25, L_0u24, eL_0u24, hF⟩ := hF
      refine r_last (w2 := [(h_0, oX6 h_0_of h_0_kept h_0_column h_0_size h_0_hidden h_0_cell h_0_home h_0_waste h_0_stock h_0_past h_0_start h_0_known h_0_sorted h_0_row h_0_best I_0), (h_0_of, eI cI 9 (I_0 1)), (h_0_kept, eI cI 9 (I_0 2)), (h_0_column, eJ cJ 5 (L_0u24 0)), (h_0_size, eI cI 5 (I_0 3)), (h_0_hidden, eI cI 5 (I_0 4)), (h_0_cell, eI cI 2 (I_0 5)), (h_0_home, eI cI 4 (I_0 6)), (h_0_waste, eI cI 8 (I_0 7)), (h_0_stock, eI cI 8 (I_0 8)), (h_0_past, eJ cJ 1616 (L_0u24 1)), (h_0_start, eJ cJ 8 (L_0u24 2)), (h_0_known, eJ cJ 3216 (L_0u24 3)), (h_0_sorted, eJ cJ 3216 (L_0u24 4)), (h_0_row, eI cI 16 (I_0 9)), (h_0_best, eJ cJ 8 (L_0u24 5))]) hx hb hK hS 10 rfl rfl hi25 dX6_store_23 (by rw [eL_0u24]; rfl) (fun H locs hS => ?_)
      refine lv_lload_n hx hb dX6_store_24 rfl (lv_at hl 3 rfl) ?_
      refine lv_aload_n hx hb dX6_store_25 rfl (lv_at hl 0 rfl) ?_
      refine r_get hx hb hts inX6 hown hK hS 0 16 rfl rfl (by decide) q9 rfl dX6_store_26 ?_
      refine lv_iload hx hb dX6_store_29 (lv_at hl 4 rfl) ?_
      replace hF := rdA_e hF
      obtain ⟨hi27, x26, ex26, hF⟩ := hF
      refine r_iald hx hb hK hS 4 rfl rfl hi27 dX6_store_31 ex26 ?_
      refine lv_aload_n hx hb dX6_store_32 rfl (lv_at hl 0 rfl) ?_
      refine r_get hx hb hts inX6 hown hK hS 0 17 rfl rfl (by decide) q10 rfl dX6_store_33 ?_
      refine lv_iload hx hb dX6_store_36 (lv_at hl 4 rfl) ?_
      replace hF := rdA_e hF
      obtain ⟨hi29, x28, ex28, hF⟩ := hF
      refine r_iald hx hb hK hS 5 rfl rfl hi29 dX6_store_38 ex28 ?_
      refine lv_iconst (v := (nI 5)) hx hb dX6_store_39 (by decide) ?_
      refine lv_ishl hx hb dX6_store_40 ?_
      refine lv_ior hx hb dX6_store_41 ?_
      refine lv_i2l hx hb dX6_store_42 rfl ?_
      refine lv_bipush (v := (nI 10)) hx hb dX6_store_43 (by decide) ?_
      refine lv_iload hx hb dX6_store_45 (lv_at hl 4 rfl) ?_
      refine lv_imul hx hb dX6_store_47 ?_
      refine lv_lshl hx hb dX6_store_48 rfl ?_
      refine lv_lor hx hb dX6_store_49 ?_
      refine lv_lstore_n (lv' := [(3, .long (v3 ||| ((((x26 ||| (x28 <<< ((nI 5) &&& 31))) : Int32).toInt64) <<< ((((nI 10) * v5) : Int32).toInt64 &&& 63)))), (0, .ref h_0), (1, .ref h_0_past), (2, .int v2), (5, .int v5)]) hx hb dX6_store_50 rfl hl (by decide) rfl (fun ls hl => ?_)
      refine lv_iinc (v := v5 + (nI 1)) (lv' := [(5, .int (v5 + (nI 1))), (3, .long (v3 ||| ((((x26 ||| (x28 <<< ((nI 5) &&& 31))) : Int32).toInt64) <<< ((((nI 10) * v5) : Int32).toInt64 &&& 63)))), (0, .ref h_0), (1, .ref h_0_past), (2, .int v2)]) hx hb dX6_store_51 hl (k := 4) rfl rfl (by decide) rfl (fun ls hl => ?_)
      refine lv_goto (tgt := 5) hx hb dX6_store_54 (by decide) ?_
      exact hK5 L_0u24 v2 (v3 ||| ((((x26 ||| (x28 <<< ((nI 5) &&& 31))) : Int32).toInt64) <<< ((((nI 10) * v5) : Int32).toInt64 &&& 63))) (v5 + (nI 1)) _ _ _ hS (lv_sub hl [2, 3, 4, 1, 0] rfl) hF
  have L5 : ∀  (n : Nat) (L_0 : Nat → Nat → Int64) (v2 : Int32) (v3 : Int64) (v5 : Int32) (H : Heap) (locs : List Loc) (ls : Array Slot), HS D A H0 [(h_0, oX6 h_0_of h_0_kept h_0_column h_0_size h_0_hidden h_0_cell h_0_home h_0_waste h_0_stock h_0_past h_0_start h_0_known h_0_sorted h_0_row h_0_best I_0), (h_0_of, eI cI 9 (I_0 1)), (h_0_kept, eI cI 9 (I_0 2)), (h_0_column, eJ cJ 5 (L_0 0)), (h_0_size, eI cI 5 (I_0 3)), (h_0_hidden, eI cI 5 (I_0 4)), (h_0_cell, eI cI 2 (I_0 5)), (h_0_home, eI cI 4 (I_0 6)), (h_0_waste, eI cI 8 (I_0 7)), (h_0_stock, eI cI 8 (I_0 8)), (h_0_past, eJ cJ 1616 (L_0 1)), (h_0_start, eJ cJ 8 (L_0 2)), (h_0_known, eJ cJ 3216 (L_0 3)), (h_0_sorted, eJ cJ 3216 (L_0 4)), (h_0_row, eI cI 16 (I_0 9)), (h_0_best, eJ cJ 8 (L_0 5))] H locs → lv_has ls 10 [(0, .ref h_0), (1, .ref h_0_past), (2, .int v2), (3, .long v3), (5, .int v5)] → F_X6_store_L5 I_0 1 1616  n L_0 v2 v3 v5 = some r_L_0 → W p l e ({ frames := 0, cells := 0, slots := 0, locals := 0 } : Room) s m args below meth c H locs 0 0 Q (F0 m 5 ls []) := by
    intro  n
    induction n with
    | zero => intro L_0 v2 v3 v5 H locs ls hS hl hF; exact nomatch (show (none : Option ((Nat → Nat → Int64))) = some _ from hF)
    | succ n ih => intro L_0 v2 v3 v5 H locs ls hS hl hF; exact S5  _ ih L_0 v2 v3 v5 H locs ls hS hl hF
  unfold F_X6_store at hF
  refine lv_lconst (v := (lN 0)) hx hb dX6_store_0 (by decide) ?_
  refine lv_lstore_n (lv' := [(3, .long (lN 0)), (0, .ref h_0), (1, .ref h_0_past), (2, .int v2)]) hx hb dX6_store_1 rfl hl (by decide) rfl (fun ls hl => ?_)
  refine lv_iconst (v := (nI 0)) hx hb dX6_store_2 (by decide) ?_
  refine lv_istore (lv' := [(5, .int (nI 0)), (3, .long (lN 0)), (0, .ref h_0), (1, .ref h_0_past), (2, .int v2)]) hx hb dX6_store_3 hl (by decide) rfl (fun ls hl => ?_)
  exact L5 FU L_0 v2 (lN 0) (nI 0) _ _ _ hS (lv_sub hl [2, 3, 4, 1, 0] rfl) hF
set_option maxHeartbeats 4000000 in
set_option maxRecDepth 100000 in
theorem c_X6_store_start (l : Launch) (D : va_G) (cI cJ : ClassId) (h_0 h_0_of h_0_kept h_0_column h_0_size h_0_hidden h_0_cell h_0_home h_0_waste h_0_stock h_0_past h_0_start h_0_known h_0_sorted h_0_row h_0_best : Nat) (I_0 : Nat → Nat → Int32) (L_0 : Nat → Nat → Int64) (v2 : Int32) (r_L_0 : Nat → Nat → Int64) (hF : F_X6_store I_0 2 8 L_0 v2 = some r_L_0) : CtV l D [(cI, .int), (cJ, .long)] yX6_store wtX6_store ({ frames := 0, cells := 0, slots := 0, locals := 0 } : Room) [.ref h_0, .ref h_0_start, .int v2] [(h_0, oX6 h_0_of h_0_kept h_0_column h_0_size h_0_hidden h_0_cell h_0_home h_0_waste h_0_stock h_0_past h_0_start h_0_known h_0_sorted h_0_row h_0_best I_0), (h_0_of, eI cI 9 (I_0 1)), (h_0_kept, eI cI 9 (I_0 2)), (h_0_column, eJ cJ 5 (L_0 0)), (h_0_size, eI cI 5 (I_0 3)), (h_0_hidden, eI cI 5 (I_0 4)), (h_0_cell, eI cI 2 (I_0 5)), (h_0_home, eI cI 4 (I_0 6)), (h_0_waste, eI cI 8 (I_0 7)), (h_0_stock, eI cI 8 (I_0 8)), (h_0_past, eJ cJ 1616 (L_0 1)), (h_0_start, eJ cJ 8 (L_0 2)), (h_0_known, eJ cJ 3216 (L_0 3)), (h_0_sorted, eJ cJ 3216 (L_0 4)), (h_0_row, eI cI 16 (I_0 9)), (h_0_best, eJ cJ 8 (L_0 5))] [(h_0, oX6 h_0_of h_0_kept h_0_column h_0_size h_0_hidden h_0_cell h_0_home h_0_waste h_0_stock h_0_past h_0_start h_0_known h_0_sorted h_0_row h_0_best I_0), (h_0_of, eI cI 9 (I_0 1)), (h_0_kept, eI cI 9 (I_0 2)), (h_0_column, eJ cJ 5 (r_L_0 0)), (h_0_size, eI cI 5 (I_0 3)), (h_0_hidden, eI cI 5 (I_0 4)), (h_0_cell, eI cI 2 (I_0 5)), (h_0_home, eI cI 4 (I_0 6)), (h_0_waste, eI cI 8 (I_0 7)), (h_0_stock, eI cI 8 (I_0 8)), (h_0_past, eJ cJ 1616 (r_L_0 1)), (h_0_start, eJ cJ 8 (r_L_0 2)), (h_0_known, eJ cJ 3216 (r_L_0 3)), (h_0_sorted, eJ cJ 3216 (r_L_0 4)), (h_0_row, eI cI 16 (I_0 9)), (h_0_best, eJ cJ 8 (r_L_0 5))] := by
  refine CtV.of (cc := cX6_store) (maxL := 10) (by decide) rfl (Nat.le_of_ble_eq_true rfl) ?_
  intro p e s m args below meth c A H0 Q ls X hS hl kret
  have hCF := X.1
  obtain ⟨⟨hx, hb, hml, hown, hts⟩, hK, hA⟩ := X
  have hl : lv_has ls 10 [(0, .ref h_0), (1, .ref h_0_start), (2, .int v2)] := hl
  have q0 := hts (.fieldLink RX6 120 "PatienceryModel" "left" "I") (List.mem_cons_of_mem _ mw_190)
  have inX6 : ∀ w ∈ u_ws RX6 TX6 32, w ∈ wtX6_store := fun w h => List.mem_cons_of_mem _ (inlX6 w h)
  have q2 := hts (.fieldLink RX6 51 "PatienceryModel" "stock" "[I") (List.mem_cons_of_mem _ mw_169)
  have q3 := hts (.fieldLink RX6 117 "PatienceryModel" "wasted" "I") (List.mem_cons_of_mem _ mw_195)
  have q4 := hts (.fieldLink RX6 48 "PatienceryModel" "waste" "[I") (List.mem_cons_of_mem _ mw_168)
  have q5 := hts (.fieldLink RX6 45 "PatienceryModel" "home" "[I") (List.mem_cons_of_mem _ mw_167)
  have q6 := hts (.fieldLink RX6 42 "PatienceryModel" "cell" "[I") (List.mem_cons_of_mem _ mw_166)
  have q7 := hts (.fieldLink RX6 123 "PatienceryModel" "turned" "I") (List.mem_cons_of_mem _ mw_196)
  have q8 := hts (.fieldLink RX6 32 "PatienceryModel" "column" "[J") (List.mem_cons_of_mem _ mw_163)
  have q9 := hts (.fieldLink RX6 36 "PatienceryModel" "size" "[I") (List.mem_cons_of_mem _ mw_164)
  have q10 := hts (.fieldLink RX6 39 "PatienceryModel" "hidden" "[I") (List.mem_cons_of_mem _ mw_165)
  have B241 : ∀ (L_0 : Nat → Nat → Int64) (v2 : Int32) (v7 : Int64) (H : Heap) (locs : List Loc) (ls : Array Slot), HS D A H0 [(h_0, oX6 h_0_of h_0_kept h_0_column h_0_size h_0_hidden h_0_cell h_0_home h_0_waste h_0_stock h_0_past h_0_start h_0_known h_0_sorted h_0_row h_0_best I_0), (h_0_of, eI cI 9 (I_0 1)), (h_0_kept, eI cI 9 (I_0 2)), (h_0_column, eJ cJ 5 (L_0 0)), (h_0_size, eI cI 5 (I_0 3)), (h_0_hidden, eI cI 5 (I_0 4)), (h_0_cell, eI cI 2 (I_0 5)), (h_0_home, eI cI 4 (I_0 6)), (h_0_waste, eI cI 8 (I_0 7)), (h_0_stock, eI cI 8 (I_0 8)), (h_0_past, eJ cJ 1616 (L_0 1)), (h_0_start, eJ cJ 8 (L_0 2)), (h_0_known, eJ cJ 3216 (L_0 3)), (h_0_sorted, eJ cJ 3216 (L_0 4)), (h_0_row, eI cI 16 (I_0 9)), (h_0_best, eJ cJ 8 (L_0 5))] H locs → lv_has ls 10 [(1, .ref h_0_start), (2, .int v2), (7, .long v7)] → F_X6_store_b241 I_0 2 8  L_0 v2 v7 = some r_L_0 → W p l e ({ frames := 0, cells := 0, slots := 0, locals := 0 } : Room) s m args below meth c H locs 0 0 Q (F0 m 241 ls []) := by
    intro L_0 v2 v7 H locs ls hS hl hF
    unfold F_X6_store_b241 at hF
    refine lv_aload_n hx hb dX6_store_241 rfl (lv_at hl 0 rfl) ?_
    refine lv_iload_n hx hb dX6_store_242 rfl (lv_at hl 1 rfl) ?_
    refine lv_bipush (v := (nI 7)) hx hb dX6_store_243 (by decide) ?_
    refine lv_iadd hx hb dX6_store_245 ?_
    refine lv_lload hx hb dX6_store_246 (lv_at hl 2 rfl) ?_
    replace hF := wrJ_e hF
    obtain ⟨hi2, L_0u1, eL_0u1, hF⟩ := hF
    refine r_last (w2 := [(h_0, oX6 h_0_of h_0_kept h_0_column h_0_size h_0_hidden h_0_cell h_0_home h_0_waste h_0_stock h_0_past h_0_start h_0_known h_0_sorted h_0_row h_0_best I_0), (h_0_of, eI cI 9 (I_0 1)), (h_0_kept, eI cI 9 (I_0 2)), (h_0_column, eJ cJ 5 (L_0u1 0)), (h_0_size, eI cI 5 (I_0 3)), (h_0_hidden, eI cI 5 (I_0 4)), (h_0_cell, eI cI 2 (I_0 5)), (h_0_home, eI cI 4 (I_0 6)), (h_0_waste, eI cI 8 (I_0 7)), (h_0_stock, eI cI 8 (I_0 8)), (h_0_past, eJ cJ 1616 (L_0u1 1)), (h_0_start, eJ cJ 8 (L_0u1 2)), (h_0_known, eJ cJ 3216 (L_0u1 3)), (h_0_sorted, eJ cJ 3216 (L_0u1 4)), (h_0_row, eI cI 16 (I_0 9)), (h_0_best, eJ cJ 8 (L_0u1 5))]) hx hb hK hS 11 rfl rfl hi2 dX6_store_248 (by rw [eL_0u1]; rfl) (fun H locs hS => ?_)
    have e9_0 := Option.some.inj hF
    subst e9_0
    exact kret _ _ _ _ hS dX6_store_249
  have B232 : ∀ (K163 : (Nat → Nat → Int64) → Int32 → Int64 → Int32 → Option ((Nat → Nat → Int64))) (_ : ∀ (L_0 : Nat → Nat → Int64) (v2 : Int32) (v7 : Int64) (v9 : Int32) (H : Heap) (locs : List Loc) (ls : Array Slot), HS D A H0 [(h_0, oX6 h_0_of h_0_kept h_0_column h_0_size h_0_hidden h_0_cell h_0_home h_0_waste h_0_stock h_0_past h_0_start h_0_known h_0_sorted h_0_row h_0_best I_0), (h_0_of, eI cI 9 (I_0 1)), (h_0_kept, eI cI 9 (I_0 2)), (h_0_column, eJ cJ 5 (L_0 0)), (h_0_size, eI cI 5 (I_0 3)), (h_0_hidden, eI cI 5 (I_0 4)), (h_0_cell, eI cI 2 (I_0 5)), (h_0_home, eI cI 4 (I_0 6)), (h_0_waste, eI cI 8 (I_0 7)), (h_0_stock, eI cI 8 (I_0 8)), (h_0_past, eJ cJ 1616 (L_0 1)), (h_0_start, eJ cJ 8 (L_0 2)), (h_0_known, eJ cJ 3216 (L_0 3)), (h_0_sorted, eJ cJ 3216 (L_0 4)), (h_0_row, eI cI 16 (I_0 9)), (h_0_best, eJ cJ 8 (L_0 5))] H locs → lv_has ls 10 [(0, .ref h_0), (1, .ref h_0_start), (2, .int v2), (7, .long v7), (9, .int v9)] → K163 L_0 v2 v7 v9 = some r_L_0 → W p l e ({ frames := 0, cells := 0, slots := 0, locals := 0 } : Room) s m args below meth c H locs 0 0 Q (F0 m 163 ls [])) (L_0 : Nat → Nat → Int64) (v2 : Int32) (v9 : Int32) (s0 : Int64) (s1 : Int64) (H : Heap) (locs : List Loc) (ls : Array Slot), HS D A H0 [(h_0, oX6 h_0_of h_0_kept h_0_column h_0_size h_0_hidden h_0_cell h_0_home h_0_waste h_0_stock h_0_past h_0_start h_0_known h_0_sorted h_0_row h_0_best I_0), (h_0_of, eI cI 9 (I_0 1)), (h_0_kept, eI cI 9 (I_0 2)), (h_0_column, eJ cJ 5 (L_0 0)), (h_0_size, eI cI 5 (I_0 3)), (h_0_hidden, eI cI 5 (I_0 4)), (h_0_cell, eI cI 2 (I_0 5)), (h_0_home, eI cI 4 (I_0 6)), (h_0_waste, eI cI 8 (I_0 7)), (h_0_stock, eI cI 8 (I_0 8)), (h_0_past, eJ cJ 1616 (L_0 1)), (h_0_start, eJ cJ 8 (L_0 2)), (h_0_known, eJ cJ 3216 (L_0 3)), (h_0_sorted, eJ cJ 3216 (L_0 4)), (h_0_row, eI cI 16 (I_0 9)), (h_0_best, eJ cJ 8 (L_0 5))] H locs → lv_has ls 10 [(0, .ref h_0), (1, .ref h_0_start), (2, .int v2), (9, .int v9)] → F_X6_store_b232 I_0 2 8 K163 L_0 v2 v9 s0 s1 = some r_L_0 → W p l e ({ frames := 0, cells := 0, slots := 0, locals := 0 } : Room) s m args below meth c H locs 0 0 Q (F0 m 232 ls [.long s1, .long s0]) := by
    intro K163 hK163 L_0 v2 v9 s0 s1 H locs ls hS hl hF
    unfold F_X6_store_b232 at hF
    refine lv_lor hx hb dX6_store_232 ?_
    refine lv_lstore (lv' := [(7, .long (s0 ||| s1)), (0, .ref h_0), (1, .ref h_0_start), (2, .int v2), (9, .int v9)]) hx hb dX6_store_233 hl (by decide) rfl (fun ls hl => ?_)
    refine lv_iinc (v := v9 + (nI 1)) (lv' := [(9, .int (v9 + (nI 1))), (7, .long (s0 ||| s1)), (0, .ref h_0), (1, .ref h_0_start), (2, .int v2)]) hx hb dX6_store_235 hl (k := 4) rfl rfl (by decide) rfl (fun ls hl => ?_)
    refine lv_goto (tgt := 163) hx hb dX6_store_238 (by decide) ?_
    exact hK163 L_0 v2 (s0 ||| s1) (v9 + (nI 1)) _ _ _ hS (lv_sub hl [2, 3, 4, 1, 0] rfl) hF
  have B198 : ∀ (K163 : (Nat → Nat → Int64) → Int32 → Int64 → Int32 → Option ((Nat → Nat → Int64))) (_ : ∀ (L_0 : Nat → Nat → Int64) (v2 : Int32) (v7 : Int64) (v9 : Int32) (H : Heap) (locs : List Loc) (ls : Array Slot), HS D A H0 [(h_0, oX6 h_0_of h_0_kept h_0_column h_0_size h_0_hidden h_0_cell h_0_home h_0_waste h_0_stock h_0_past h_0_start h_0_known h_0_sorted h_0_row h_0_best I_0), (h_0_of, eI cI 9 (I_0 1)), (h_0_kept, eI cI 9 (I_0 2)), (h_0_column, eJ cJ 5 (L_0 0)), (h_0_size, eI cI 5 (I_0 3)), (h_0_hidden, eI cI 5 (I_0 4)), (h_0_cell, eI cI 2 (I_0 5)), (h_0_home, eI cI 4 (I_0 6)), (h_0_waste, eI cI 8 (I_0 7)), (h_0_stock, eI cI 8 (I_0 8)), (h_0_past, eJ cJ 1616 (L_0 1)), (h_0_start, eJ cJ 8 (L_0 2)), (h_0_known, eJ cJ 3216 (L_0 3)), (h_0_sorted, eJ cJ 3216 (L_0 4)), (h_0_row, eI cI 16 (I_0 9)), (h_0_best, eJ cJ 8 (L_0 5))] H locs → lv_has ls 10 [(0, .ref h_0), (1, .ref h_0_start), (2, .int v2), (7, .long v7), (9, .int v9)] → K163 L_0 v2 v7 v9 = some r_L_0 → W p l e ({ frames := 0, cells := 0, slots := 0, locals := 0 } : Room) s m args below meth c H locs 0 0 Q (F0 m 163 ls [])) (L_0 : Nat → Nat → Int64) (v2 : Int32) (v9 : Int32) (s0 : Int64) (s1 : Int64) (H : Heap) (locs : List Loc) (ls : Array Slot), HS D A H0 [(h_0, oX6 h_0_of h_0_kept h_0_column h_0_size h_0_hidden h_0_cell h_0_home h_0_waste h_0_stock h_0_past h_0_start h_0_known h_0_sorted h_0_row h_0_best I_0), (h_0_of, eI cI 9 (I_0 1)), (h_0_kept, eI cI 9 (I_0 2)), (h_0_column, eJ cJ 5 (L_0 0)), (h_0_size, eI cI 5 (I_0 3)), (h_0_hidden, eI cI 5 (I_0 4)), (h_0_cell, eI cI 2 (I_0 5)), (h_0_home, eI cI 4 (I_0 6)), (h_0_waste, eI cI 8 (I_0 7)), (h_0_stock, eI cI 8 (I_0 8)), (h_0_past, eJ cJ 1616 (L_0 1)), (h_0_start, eJ cJ 8 (L_0 2)), (h_0_known, eJ cJ 3216 (L_0 3)), (h_0_sorted, eJ cJ 3216 (L_0 4)), (h_0_row, eI cI 16 (I_0 9)), (h_0_best, eJ cJ 8 (L_0 5))] H locs → lv_has ls 10 [(0, .ref h_0), (1, .ref h_0_start), (2, .int v2), (9, .int v9)] → F_X6_store_b198 I_0 2 8 K163 L_0 v2 v9 s0 s1 = some r_L_0 → W p l e ({ frames := 0, cells := 0, slots := 0, locals := 0 } : Room) s m args below meth c H locs 0 0 Q (F0 m 198 ls [.long s1, .long s0]) := by
    intro K163 hK163 L_0 v2 v9 s0 s1 H locs ls hS hl hF
    unfold F_X6_store_b198 at hF
    refine lv_lor hx hb dX6_store_198 ?_
    refine lv_lstore (lv' := [(7, .long (s0 ||| s1)), (0, .ref h_0), (1, .ref h_0_start), (2, .int v2), (9, .int v9)]) hx hb dX6_store_199 hl (by decide) rfl (fun ls hl => ?_)
    refine lv_lload hx hb dX6_store_201 (lv_at hl 0 rfl) ?_
    refine lv_iload hx hb dX6_store_203 (lv_at hl 4 rfl) ?_
    refine lv_aload_n hx hb dX6_store_205 rfl (lv_at hl 1 rfl) ?_
    refine r_get hx hb hts inX6 hown hK hS 0 23 rfl rfl (by decide) q0 rfl dX6_store_206 ?_
    refine lv_icmp_ge (tgt := 231) hx hb dX6_store_209 (by decide) (fun c_3 => ?_) (fun c_3 => ?_)
    · replace hF := ifp hF c_3
      refine lv_lconst (v := (lN 0)) hx hb dX6_store_231 (by decide) ?_
      exact B232 K163 hK163 L_0 v2 v9 (s0 ||| s1) (lN 0) _ _ _ hS (lv_sub hl [1, 2, 3, 4] rfl) hF
    · replace hF := ifn hF c_3
      refine lv_aload_n hx hb dX6_store_212 rfl (lv_at hl 1 rfl) ?_
      refine r_get hx hb hts inX6 hown hK hS 0 22 rfl rfl (by decide) q2 rfl dX6_store_213 ?_
      refine lv_iload hx hb dX6_store_216 (lv_at hl 4 rfl) ?_
      replace hF := rdA_e hF
      obtain ⟨hi5, x4, ex4, hF⟩ := hF
      refine r_iald hx hb hK hS 9 rfl rfl hi5 dX6_store_218 ex4 ?_
      refine lv_i2l hx hb dX6_store_219 rfl ?_
      refine lv_bipush (v := (nI 32)) hx hb dX6_store_220 (by decide) ?_
      refine lv_iconst (v := (nI 4)) hx hb dX6_store_222 (by decide) ?_
      refine lv_iload hx hb dX6_store_223 (lv_at hl 4 rfl) ?_
      refine lv_imul hx hb dX6_store_225 ?_
      refine lv_iadd hx hb dX6_store_226 ?_
      refine lv_lshl hx hb dX6_store_227 rfl ?_
      refine lv_goto (tgt := 232) hx hb dX6_store_228 (by decide) ?_
      exact B232 K163 hK163 L_0 v2 v9 (s0 ||| s1) ((x4.toInt64) <<< ((((nI 32) + ((nI 4) * v9)) : Int32).toInt64 &&& 63)) _ _ _ hS (lv_sub hl [1, 2, 3, 4] rfl) hF
  have S163 : ∀ (K163 : (Nat → Nat → Int64) → Int32 → Int64 → Int32 → Option ((Nat → Nat → Int64))) (_ : ∀ (L_0 : Nat → Nat → Int64) (v2 : Int32) (v7 : Int64) (v9 : Int32) (H : Heap) (locs : List Loc) (ls : Array Slot), HS D A H0 [(h_0, oX6 h_0_of h_0_kept h_0_column h_0_size h_0_hidden h_0_cell h_0_home h_0_waste h_0_stock h_0_past h_0_start h_0_known h_0_sorted h_0_row h_0_best I_0), (h_0_of, eI cI 9 (I_0 1)), (h_0_kept, eI cI 9 (I_0 2)), (h_0_column, eJ cJ 5 (L_0 0)), (h_0_size, eI cI 5 (I_0 3)), (h_0_hidden, eI cI 5 (I_0 4)), (h_0_cell, eI cI 2 (I_0 5)), (h_0_home, eI cI 4 (I_0 6)), (h_0_waste, eI cI 8 (I_0 7)), (h_0_stock, eI cI 8 (I_0 8)), (h_0_past, eJ cJ 1616 (L_0 1)), (h_0_start, eJ cJ 8 (L_0 2)), (h_0_known, eJ cJ 3216 (L_0 3)), (h_0_sorted, eJ cJ 3216 (L_0 4)), (h_0_row, eI cI 16 (I_0 9)), (h_0_best, eJ cJ 8 (L_0 5))] H locs → lv_has ls 10 [(0, .ref h_0), (1, .ref h_0_start), (2, .int v2), (7, .long v7), (9, .int v9)] → K163 L_0 v2 v7 v9 = some r_L_0 → W p l e ({ frames := 0, cells := 0, slots := 0, locals := 0 } : Room) s m args below meth c H locs 0 0 Q (F0 m 163 ls [])) (L_0 : Nat → Nat → Int64) (v2 : Int32) (v7 : Int64) (v9 : Int32) (H : Heap) (locs : List Loc) (ls : Array Slot), HS D A H0 [(h_0, oX6 h_0_of h_0_kept h_0_column h_0_size h_0_hidden h_0_cell h_0_home h_0_waste h_0_stock h_0_past h_0_start h_0_known h_0_sorted h_0_row h_0_best I_0), (h_0_of, eI cI 9 (I_0 1)), (h_0_kept, eI cI 9 (I_0 2)), (h_0_column, eJ cJ 5 (L_0 0)), (h_0_size, eI cI 5 (I_0 3)), (h_0_hidden, eI cI 5 (I_0 4)), (h_0_cell, eI cI 2 (I_0 5)), (h_0_home, eI cI 4 (I_0 6)), (h_0_waste, eI cI 8 (I_0 7)), (h_0_stock, eI cI 8 (I_0 8)), (h_0_past, eJ cJ 1616 (L_0 1)), (h_0_start, eJ cJ 8 (L_0 2)), (h_0_known, eJ cJ 3216 (L_0 3)), (h_0_sorted, eJ cJ 3216 (L_0 4)), (h_0_row, eI cI 16 (I_0 9)), (h_0_best, eJ cJ 8 (L_0 5))] H locs → lv_has ls 10 [(0, .ref h_0), (1, .ref h_0_start), (2, .int v2), (7, .long v7), (9, .int v9)] → F_X6_store_s163 I_0 2 8 K163 L_0 v2 v7 v9 = some r_L_0 → W p l e ({ frames := 0, cells := 0, slots := 0, locals := 0 } : Room) s m args below meth c H locs 0 0 Q (F0 m 163 ls []) := by
    intro K163 hK163 L_0 v2 v7 v9 H locs ls hS hl hF
    unfold F_X6_store_s163 at hF
    refine lv_iload hx hb dX6_store_163 (lv_at hl 4 rfl) ?_
    refine lv_bipush (v := (nI 8)) hx hb dX6_store_165 (by decide) ?_
    refine lv_icmp_ge (tgt := 241) hx hb dX6_store_167 (by decide) (fun c_6 => ?_) (fun c_6 => ?_)
    · replace hF := ifp hF c_6
      exact B241 L_0 v2 v7 _ _ _ hS (lv_sub hl [1, 2, 3] rfl) hF
    · replace hF := ifn hF c_6
      refine lv_lload hx hb dX6_store_170 (lv_at hl 3 rfl) ?_
      refine lv_iload hx hb dX6_store_172 (lv_at hl 4 rfl) ?_
      refine lv_aload_n hx hb dX6_store_174 rfl (lv_at hl 0 rfl) ?_
      refine r_get hx hb hts inX6 hown hK hS 0 21 rfl rfl (by decide) q3 rfl dX6_store_175 ?_
      refine lv_icmp_ge (tgt := 197) hx hb dX6_store_178 (by decide) (fun c_7 => ?_) (fun c_7 => ?_)
      · replace hF := ifp hF c_7
        refine lv_lconst (v := (lN 0)) hx hb dX6_store_197 (by decide) ?_
        exact B198 K163 hK163 L_0 v2 v9 v7 (lN 0) _ _ _ hS (lv_sub hl [0, 1, 2, 4] rfl) hF
      · replace hF := ifn hF c_7
        refine lv_aload_n hx hb dX6_store_181 rfl (lv_at hl 0 rfl) ?_
        refine r_get hx hb hts inX6 hown hK hS 0 20 rfl rfl (by decide) q4 rfl dX6_store_182 ?_
        refine lv_iload hx hb dX6_store_185 (lv_at hl 4 rfl) ?_
        replace hF := rdA_e hF
        obtain ⟨hi9, x8, ex8, hF⟩ := hF
        refine r_iald hx hb hK hS 8 rfl rfl hi9 dX6_store_187 ex8 ?_
        refine lv_i2l hx hb dX6_store_188 rfl ?_
        refine lv_iconst (v := (nI 4)) hx hb dX6_store_189 (by decide) ?_
        refine lv_iload hx hb dX6_store_190 (lv_at hl 4 rfl) ?_
        refine lv_imul hx hb dX6_store_192 ?_
        refine lv_lshl hx hb dX6_store_193 rfl ?_
        refine lv_goto (tgt := 198) hx hb dX6_store_194 (by decide) ?_
        exact B198 K163 hK163 L_0 v2 v9 v7 ((x8.toInt64) <<< ((((nI 4) * v9) : Int32).toInt64 &&& 63)) _ _ _ hS (lv_sub hl [0, 1, 2, 4] rfl) hF
  have L163 : ∀  (n : Nat) (L_0 : Nat → Nat → Int64) (v2 : Int32) (v7 : Int64) (v9 : Int32) (H : Heap) (locs : List Loc) (ls : Array Slot), HS D A H0 [(h_0, oX6 h_0_of h_0_kept h_0_column h_0_size h_0_hidden h_0_cell h_0_home h_0_waste h_0_stock h_0_past h_0_start h_0_known h_0_sorted h_0_row h_0_best I_0), (h_0_of, eI cI 9 (I_0 1)), (h_0_kept, eI cI 9 (I_0 2)), (h_0_column, eJ cJ 5 (L_0 0)), (h_0_size, eI cI 5 (I_0 3)), (h_0_hidden, eI cI 5 (I_0 4)), (h_0_cell, eI cI 2 (I_0 5)), (h_0_home, eI cI 4 (I_0 6)), (h_0_waste, eI cI 8 (I_0 7)), (h_0_stock, eI cI 8 (I_0 8)), (h_0_past, eJ cJ 1616 (L_0 1)), (h_0_start, eJ cJ 8 (L_0 2)), (h_0_known, eJ cJ 3216 (L_0 3)), (h_0_sorted, eJ cJ 3216 (L_0 4)), (h_0_row, eI cI 16 (I_0 9)), (h_0_best, eJ cJ 8 (L_0 5))] H locs → lv_has ls 10 [(0, .ref h_0), (1, .ref h_0_start), (2, .int v2), (7, .long v7), (9, .int v9)] → F_X6_store_L163 I_0 2 8  n L_0 v2 v7 v9 = some r_L_0 → W p l e ({ frames := 0, cells := 0, slots := 0, locals := 0 } : Room) s m args below meth c H locs 0 0 Q (F0 m 163 ls []) := by
    intro  n
    induction n with
    | zero => intro L_0 v2 v7 v9 H locs ls hS hl hF; exact nomatch (show (none : Option ((Nat → Nat → Int64))) = some _ from hF)
    | succ n ih => intro L_0 v2 v7 v9 H locs ls hS hl hF; exact S163  _ ih L_0 v2 v7 v9 H locs ls hS hl hF
  have B149 : ∀ (L_0 : Nat → Nat → Int64) (v2 : Int32) (v5 : Int64) (H : Heap) (locs : List Loc) (ls : Array Slot), HS D A H0 [(h_0, oX6 h_0_of h_0_kept h_0_column h_0_size h_0_hidden h_0_cell h_0_home h_0_waste h_0_stock h_0_past h_0_start h_0_known h_0_sorted h_0_row h_0_best I_0), (h_0_of, eI cI 9 (I_0 1)), (h_0_kept, eI cI 9 (I_0 2)), (h_0_column, eJ cJ 5 (L_0 0)), (h_0_size, eI cI 5 (I_0 3)), (h_0_hidden, eI cI 5 (I_0 4)), (h_0_cell, eI cI 2 (I_0 5)), (h_0_home, eI cI 4 (I_0 6)), (h_0_waste, eI cI 8 (I_0 7)), (h_0_stock, eI cI 8 (I_0 8)), (h_0_past, eJ cJ 1616 (L_0 1)), (h_0_start, eJ cJ 8 (L_0 2)), (h_0_known, eJ cJ 3216 (L_0 3)), (h_0_sorted, eJ cJ 3216 (L_0 4)), (h_0_row, eI cI 16 (I_0 9)), (h_0_best, eJ cJ 8 (L_0 5))] H locs → lv_has ls 10 [(0, .ref h_0), (1, .ref h_0_start), (2, .int v2), (5, .long v5)] → F_X6_store_b149 I_0 2 8  L_0 v2 v5 = some r_L_0 → W p l e ({ frames := 0, cells := 0, slots := 0, locals := 0 } : Room) s m args below meth c H locs 0 0 Q (F0 m 149 ls []) := by
    intro L_0 v2 v5 H locs ls hS hl hF
    unfold F_X6_store_b149 at hF
    refine lv_aload_n hx hb dX6_store_149 rfl (lv_at hl 1 rfl) ?_
    refine lv_iload_n hx hb dX6_store_150 rfl (lv_at hl 2 rfl) ?_
    refine lv_bipush (v := (nI 6)) hx hb dX6_store_151 (by decide) ?_
    refine lv_iadd hx hb dX6_store_153 ?_
    refine lv_lload hx hb dX6_store_154 (lv_at hl 3 rfl) ?_
    replace hF := wrJ_e hF
    obtain ⟨hi11, L_0u10, eL_0u10, hF⟩ := hF
    refine r_last (w2 := [(h_0, oX6 h_0_of h_0_kept h_0_column h_0_size h_0_hidden h_0_cell h_0_home h_0_waste h_0_stock h_0_past h_0_start h_0_known h_0_sorted h_0_row h_0_best I_0), (h_0_of, eI cI 9 (I_0 1)), (h_0_kept, eI cI 9 (I_0 2)), (h_0_column, eJ cJ 5 (L_0u10 0)), (h_0_size, eI cI 5 (I_0 3)), (h_0_hidden, eI cI 5 (I_0 4)), (h_0_cell, eI cI 2 (I_0 5)), (h_0_home, eI cI 4 (I_0 6)), (h_0_waste, eI cI 8 (I_0 7)), (h_0_stock, eI cI 8 (I_0 8)), (h_0_past, eJ cJ 1616 (L_0u10 1)), (h_0_start, eJ cJ 8 (L_0u10 2)), (h_0_known, eJ cJ 3216 (L_0u10 3)), (h_0_sorted, eJ cJ 3216 (L_0u10 4)), (h_0_row, eI cI 16 (I_0 9)), (h_0_best, eJ cJ 8 (L_0u10 5))]) hx hb hK hS 11 rfl rfl hi11 dX6_store_156 (by rw [eL_0u10]; rfl) (fun H locs hS => ?_)
    refine lv_lconst (v := (lN 0)) hx hb dX6_store_157 (by decide) ?_
    refine lv_lstore (lv' := [(7, .long (lN 0)), (0, .ref h_0), (1, .ref h_0_start), (2, .int v2), (5, .long v5)]) hx hb dX6_store_158 hl (by decide) rfl (fun ls hl => ?_)
    refine lv_iconst (v := (nI 0)) hx hb dX6_store_160 (by decide) ?_
    refine lv_istore (lv' := [(9, .int (nI 0)), (7, .long (lN 0)), (0, .ref h_0), (1, .ref h_0_start), (2, .int v2), (5, .long v5)]) hx hb dX6_store_161 hl (by decide) rfl (fun ls hl => ?_)
    exact L163 FU L_0u10 v2 (lN 0) (nI 0) _ _ _ hS (lv_sub hl [2, 3, 4, 1, 0] rfl) hF
  have S116 : ∀ (K116 : (Nat → Nat → Int64) → Int32 → Int64 → Int32 → Option ((Nat → Nat → Int64))) (_ : ∀ (L_0 : Nat → Nat → Int64) (v2 : Int32) (v5 : Int64) (v7 : Int32) (H : Heap) (locs : List Loc) (ls : Array Slot), HS D A H0 [(h_0, oX6 h_0_of h_0_kept h_0_column h_0_size h_0_hidden h_0_cell h_0_home h_0_waste h_0_stock h_0_past h_0_start h_0_known h_0_sorted h_0_row h_0_best I_0), (h_0_of, eI cI 9 (I_0 1)), (h_0_kept, eI cI 9 (I_0 2)), (h_0_column, eJ cJ 5 (L_0 0)), (h_0_size, eI cI 5 (I_0 3)), (h_0_hidden, eI cI 5 (I_0 4)), (h_0_cell, eI cI 2 (I_0 5)), (h_0_home, eI cI 4 (I_0 6)), (h_0_waste, eI cI 8 (I_0 7)), (h_0_stock, eI cI 8 (I_0 8)), (h_0_past, eJ cJ 1616 (L_0 1)), (h_0_start, eJ cJ 8 (L_0 2)), (h_0_known, eJ cJ 3216 (L_0 3)), (h_0_sorted, eJ cJ 3216 (L_0 4)), (h_0_row, eI cI 16 (I_0 9)), (h_0_best, eJ cJ 8 (L_0 5))] H locs → lv_has ls 10 [(0, .ref h_0), (1, .ref h_0_start), (2, .int v2), (5, .long v5), (7, .int v7)] → K116 L_0 v2 v5 v7 = some r_L_0 → W p l e ({ frames := 0, cells := 0, slots := 0, locals := 0 } : Room) s m args below meth c H locs 0 0 Q (F0 m 116 ls [])) (L_0 : Nat → Nat → Int64) (v2 : Int32) (v5 : Int64) (v7 : Int32) (H : Heap) (locs : List Loc) (ls : Array Slot), HS D A H0 [(h_0, oX6 h_0_of h_0_kept h_0_column h_0_size h_0_hidden h_0_cell h_0_home h_0_waste h_0_stock h_0_past h_0_start h_0_known h_0_sorted h_0_row h_0_best I_0), (h_0_of, eI cI 9 (I_0 1)), (h_0_kept, eI cI 9 (I_0 2)), (h_0_column, eJ cJ 5 (L_0 0)), (h_0_size, eI cI 5 (I_0 3)), (h_0_hidden, eI cI 5 (I_0 4)), (h_0_cell, eI cI 2 (I_0 5)), (h_0_home, eI cI 4 (I_0 6)), (h_0_waste, eI cI 8 (I_0 7)), (h_0_stock, eI cI 8 (I_0 8)), (h_0_past, eJ cJ 1616 (L_0 1)), (h_0_start, eJ cJ 8 (L_0 2)), (h_0_known, eJ cJ 3216 (L_0 3)), (h_0_sorted, eJ cJ 3216 (L_0 4)), (h_0_row, eI cI 16 (I_0 9)), (h_0_best, eJ cJ 8 (L_0 5))] H locs → lv_has ls 10 [(0, .ref h_0), (1, .ref h_0_start), (2, .int v2), (5, .long v5), (7, .int v7)] → F_X6_store_s116 I_0 2 8 K116 L_0 v2 v5 v7 = some r_L_0 → W p l e ({ frames := 0, cells := 0, slots := 0, locals := 0 } : Room) s m args below meth c H locs 0 0 Q (F0 m 116 ls []) := by
    intro K116 hK116 L_0 v2 v5 v7 H locs ls hS hl hF
    unfold F_X6_store_s116 at hF
    refine lv_iload hx hb dX6_store_116 (lv_at hl 4 rfl) ?_
    refine lv_iconst (v := (nI 4)) hx hb dX6_store_118 (by decide) ?_
    refine lv_icmp_ge (tgt := 149) hx hb dX6_store_119 (by decide) (fun c_12 => ?_) (fun c_12 => ?_)
    · replace hF := ifp hF c_12
      exact B149 L_0 v2 v5 _ _ _ hS (lv_sub hl [0, 1, 2, 3] rfl) hF
    · replace hF := ifn hF c_12
      refine lv_lload hx hb dX6_store_122 (lv_at hl 3 rfl) ?_
      refine lv_aload_n hx hb dX6_store_124 rfl (lv_at hl 0 rfl) ?_
      refine r_get hx hb hts inX6 hown hK hS 0 19 rfl rfl (by decide) q5 rfl dX6_store_125 ?_
      refine lv_iload hx hb dX6_store_128 (lv_at hl 4 rfl) ?_
      replace hF := rdA_e hF
      obtain ⟨hi14, x13, ex13, hF⟩ := hF
      refine r_iald hx hb hK hS 7 rfl rfl hi14 dX6_store_130 ex13 ?_
      refine lv_i2l hx hb dX6_store_131 rfl ?_
      refine lv_bipush (v := (nI 20)) hx hb dX6_store_132 (by decide) ?_
      refine lv_iconst (v := (nI 3)) hx hb dX6_store_134 (by decide) ?_
      refine lv_iload hx hb dX6_store_135 (lv_at hl 4 rfl) ?_
      refine lv_imul hx hb dX6_store_137 ?_
      refine lv_iadd hx hb dX6_store_138 ?_
      refine lv_lshl hx hb dX6_store_139 rfl ?_
      refine lv_lor hx hb dX6_store_140 ?_
      refine lv_lstore (lv' := [(5, .long (v5 ||| ((x13.toInt64) <<< ((((nI 20) + ((nI 3) * v7)) : Int32).toInt64 &&& 63)))), (0, .ref h_0), (1, .ref h_0_start), (2, .int v2), (7, .int v7)]) hx hb dX6_store_141 hl (by decide) rfl (fun ls hl => ?_)
      refine lv_iinc (v := v7 + (nI 1)) (lv' := [(7, .int (v7 + (nI 1))), (5, .long (v5 ||| ((x13.toInt64) <<< ((((nI 20) + ((nI 3) * v7)) : Int32).toInt64 &&& 63)))), (0, .ref h_0), (1, .ref h_0_start), (2, .int v2)]) hx hb dX6_store_143 hl (k := 4) rfl rfl (by decide) rfl (fun ls hl => ?_)
      refine lv_goto (tgt := 116) hx hb dX6_store_146 (by decide) ?_
      exact hK116 L_0 v2 (v5 ||| ((x13.toInt64) <<< ((((nI 20) + ((nI 3) * v7)) : Int32).toInt64 &&& 63))) (v7 + (nI 1)) _ _ _ hS (lv_sub hl [2, 3, 4, 1, 0] rfl) hF
  have L116 : ∀  (n : Nat) (L_0 : Nat → Nat → Int64) (v2 : Int32) (v5 : Int64) (v7 : Int32) (H : Heap) (locs : List Loc) (ls : Array Slot), HS D A H0 [(h_0, oX6 h_0_of h_0_kept h_0_column h_0_size h_0_hidden h_0_cell h_0_home h_0_waste h_0_stock h_0_past h_0_start h_0_known h_0_sorted h_0_row h_0_best I_0), (h_0_of, eI cI 9 (I_0 1)), (h_0_kept, eI cI 9 (I_0 2)), (h_0_column, eJ cJ 5 (L_0 0)), (h_0_size, eI cI 5 (I_0 3)), (h_0_hidden, eI cI 5 (I_0 4)), (h_0_cell, eI cI 2 (I_0 5)), (h_0_home, eI cI 4 (I_0 6)), (h_0_waste, eI cI 8 (I_0 7)), (h_0_stock, eI cI 8 (I_0 8)), (h_0_past, eJ cJ 1616 (L_0 1)), (h_0_start, eJ cJ 8 (L_0 2)), (h_0_known, eJ cJ 3216 (L_0 3)), (h_0_sorted, eJ cJ 3216 (L_0 4)), (h_0_row, eI cI 16 (I_0 9)), (h_0_best, eJ cJ 8 (L_0 5))] H locs → lv_has ls 10 [(0, .ref h_0), (1, .ref h_0_start), (2, .int v2), (5, .long v5), (7, .int v7)] → F_X6_store_L116 I_0 2 8  n L_0 v2 v5 v7 = some r_L_0 → W p l e ({ frames := 0, cells := 0, slots := 0, locals := 0 } : Room) s m args below meth c H locs 0 0 Q (F0 m 116 ls []) := by
    intro  n
    induction n with
    | zero => intro L_0 v2 v5 v7 H locs ls hS hl hF; exact nomatch (show (none : Option ((Nat → Nat → Int64))) = some _ from hF)
    | succ n ih => intro L_0 v2 v5 v7 H locs ls hS hl hF; exact S116  _ ih L_0 v2 v5 v7 H locs ls hS hl hF
  have B57 : ∀ (L_0 : Nat → Nat → Int64) (v2 : Int32) (v3 : Int64) (H : Heap) (locs : List Loc) (ls : Array Slot), HS D A H0 [(h_0, oX6 h_0_of h_0_kept h_0_column h_0_size h_0_hidden h_0_cell h_0_home h_0_waste h_0_stock h_0_past h_0_start h_0_known h_0_sorted h_0_row h_0_best I_0), (h_0_of, eI cI 9 (I_0 1)), (h_0_kept, eI cI 9 (I_0 2)), (h_0_column, eJ cJ 5 (L_0 0)), (h_0_size, eI cI 5 (I_0 3)), (h_0_hidden, eI cI 5 (I_0 4)), (h_0_cell, eI cI 2 (I_0 5)), (h_0_home, eI cI 4 (I_0 6)), (h_0_waste, eI cI 8 (I_0 7)), (h_0_stock, eI cI 8 (I_0 8)), (h_0_past, eJ cJ 1616 (L_0 1)), (h_0_start, eJ cJ 8 (L_0 2)), (h_0_known, eJ cJ 3216 (L_0 3)), (h_0_sorted, eJ cJ 3216 (L_0 4)), (h_0_row, eI cI 16 (I_0 9)), (h_0_best, eJ cJ 8 (L_0 5))] H locs → lv_has ls 10 [(0, .ref h_0), (1, .ref h_0_start), (2, .int v2), (3, .long v3)] → F_X6_store_b57 I_0 2 8  L_0 v2 v3 = some r_L_0 → W p l e ({ frames := 0, cells := 0, slots := 0, locals := 0 } : Room) s m args below meth c H locs 0 0 Q (F0 m 57 ls []) := by
    intro L_0 v2 v3 H locs ls hS hl hF
    unfold F_X6_store_b57 at hF
    refine lv_aload_n hx hb dX6_store_57 rfl (lv_at hl 1 rfl) ?_
    refine lv_iload_n hx hb dX6_store_58 rfl (lv_at hl 2 rfl) ?_
    refine lv_iconst (v := (nI 5)) hx hb dX6_store_59 (by decide) ?_
    refine lv_iadd hx hb dX6_store_60 ?_
    refine lv_lload_n hx hb dX6_store_61 rfl (lv_at hl 3 rfl) ?_
    replace hF := wrJ_e hF
    obtain ⟨hi16, L_0u15, eL_0u15, hF⟩ := hF
    refine r_last (w2 := [(h_0, oX6 h_0_of h_0_kept h_0_column h_0_size h_0_hidden h_0_cell h_0_home h_0_waste h_0_stock h_0_past h_0_start h_0_known h_0_sorted h_0_row h_0_best I_0), (h_0_of, eI cI 9 (I_0 1)), (h_0_kept, eI cI 9 (I_0 2)), (h_0_column, eJ cJ 5 (L_0u15 0)), (h_0_size, eI cI 5 (I_0 3)), (h_0_hidden, eI cI 5 (I_0 4)), (h_0_cell, eI cI 2 (I_0 5)), (h_0_home, eI cI 4 (I_0 6)), (h_0_waste, eI cI 8 (I_0 7)), (h_0_stock, eI cI 8 (I_0 8)), (h_0_past, eJ cJ 1616 (L_0u15 1)), (h_0_start, eJ cJ 8 (L_0u15 2)), (h_0_known, eJ cJ 3216 (L_0u15 3)), (h_0_sorted, eJ cJ 3216 (L_0u15 4)), (h_0_row, eI cI 16 (I_0 9)), (h_0_best, eJ cJ 8 (L_0u15 5))]) hx hb hK hS 11 rfl rfl hi16 dX6_store_62 (by rw [eL_0u15]; rfl) (fun H locs hS => ?_)
    refine lv_aload_n hx hb dX6_store_63 rfl (lv_at hl 0 rfl) ?_
    refine r_get hx hb hts inX6 hown hK hS 0 18 rfl rfl (by decide) q6 rfl dX6_store_64 ?_
    refine lv_iconst (v := (nI 0)) hx hb dX6_store_67 (by decide) ?_
    replace hF := rdA_e hF
    obtain ⟨hi18, x17, ex17, hF⟩ := hF
    refine r_iald hx hb hK hS 6 rfl rfl hi18 dX6_store_68 ex17 ?_
    refine lv_i2l hx hb dX6_store_69 rfl ?_
    refine lv_lconst (v := (lN 1)) hx hb dX6_store_70 (by decide) ?_
    refine lv_ladd hx hb dX6_store_71 ?_
    refine lv_aload_n hx hb dX6_store_72 rfl (lv_at hl 0 rfl) ?_
    refine r_get hx hb hts inX6 hown hK hS 0 18 rfl rfl (by decide) q6 rfl dX6_store_73 ?_
    refine lv_iconst (v := (nI 1)) hx hb dX6_store_76 (by decide) ?_
    replace hF := rdA_e hF
    obtain ⟨hi20, x19, ex19, hF⟩ := hF
    refine r_iald hx hb hK hS 6 rfl rfl hi20 dX6_store_77 ex19 ?_
    refine lv_i2l hx hb dX6_store_78 rfl ?_
    refine lv_lconst (v := (lN 1)) hx hb dX6_store_79 (by decide) ?_
    refine lv_ladd hx hb dX6_store_80 ?_
    refine lv_iconst (v := (nI 5)) hx hb dX6_store_81 (by decide) ?_
    refine lv_lshl hx hb dX6_store_82 rfl ?_
    refine lv_lor hx hb dX6_store_83 ?_
    refine lv_aload_n hx hb dX6_store_84 rfl (lv_at hl 0 rfl) ?_
    refine r_get hx hb hts inX6 hown hK hS 0 24 rfl rfl (by decide) q7 rfl dX6_store_85 ?_
    refine lv_i2l hx hb dX6_store_88 rfl ?_
    refine lv_bipush (v := (nI 10)) hx hb dX6_store_89 (by decide) ?_
    refine lv_lshl hx hb dX6_store_91 rfl ?_
    refine lv_lor hx hb dX6_store_92 ?_
    refine lv_aload_n hx hb dX6_store_93 rfl (lv_at hl 0 rfl) ?_
    refine r_get hx hb hts inX6 hown hK hS 0 21 rfl rfl (by decide) q3 rfl dX6_store_94 ?_
    refine lv_i2l hx hb dX6_store_97 rfl ?_
    refine lv_bipush (v := (nI 12)) hx hb dX6_store_98 (by decide) ?_
    refine lv_lshl hx hb dX6_store_100 rfl ?_
    refine lv_lor hx hb dX6_store_101 ?_
    refine lv_aload_n hx hb dX6_store_102 rfl (lv_at hl 0 rfl) ?_
    refine r_get hx hb hts inX6 hown hK hS 0 23 rfl rfl (by decide) q0 rfl dX6_store_103 ?_
    refine lv_i2l hx hb dX6_store_106 rfl ?_
    refine lv_bipush (v := (nI 16)) hx hb dX6_store_107 (by decide) ?_
    refine lv_lshl hx hb dX6_store_109 rfl ?_
    refine lv_lor hx hb dX6_store_110 ?_
    refine lv_lstore (lv' := [(5, .long ((((((x17.toInt64) + (lN 1)) ||| (((x19.toInt64) + (lN 1)) <<< (((nI 5) : Int32).toInt64 &&& 63))) ||| ((((I_0 0 24) : Int32).toInt64) <<< (((nI 10) : Int32).toInt64 &&& 63))) ||| ((((I_0 0 21) : Int32).toInt64) <<< (((nI 12) : Int32).toInt64 &&& 63))) ||| ((((I_0 0 23) : Int32).toInt64) <<< (((nI 16) : Int32).toInt64 &&& 63)))), (0, .ref h_0), (1, .ref h_0_start), (2, .int v2), (3, .long v3)]) hx hb dX6_store_111 hl (by decide) rfl (fun ls hl => ?_)
    refine lv_iconst (v := (nI 0)) hx hb dX6_store_113 (by decide) ?_
    refine lv_istore (lv' := [(7, .int (nI 0)), (5, .long ((((((x17.toInt64) + (lN 1)) ||| (((x19.toInt64) + (lN 1)) <<< (((nI 5) : Int32).toInt64 &&& 63))) ||| ((((I_0 0 24) : Int32).toInt64) <<< (((nI 10) : Int32).toInt64 &&& 63))) ||| ((((I_0 0 21) : Int32).toInt64) <<< (((nI 12) : Int32).toInt64 &&& 63))) ||| ((((I_0 0 23) : Int32).toInt64) <<< (((nI 16) : Int32).toInt64 &&& 63)))), (0, .ref h_0), (1, .ref h_0_start), (2, .int v2), (3, .long v3)]) hx hb dX6_store_114 hl (by decide) rfl (fun ls hl => ?_)
    exact L116 FU L_0u15 v2 ((((((x17.toInt64) + (lN 1)) ||| (((x19.toInt64) + (lN 1)) <<< (((nI 5) : Int32).toInt64 &&& 63))) ||| ((((I_0 0 24) : Int32).toInt64) <<< (((nI 10) : Int32).toInt64 &&& 63))) ||| ((((I_0 0 21) : Int32).toInt64) <<< (((nI 12) : Int32).toInt64 &&& 63))) ||| ((((I_0 0 23) : Int32).toInt64) <<< (((nI 16) : Int32).toInt64 &&& 63))) (nI 0) _ _ _ hS (lv_sub hl [2, 3, 4, 1, 0] rfl) hF
  have S5 : ∀ (K5 : (Nat → Nat → Int64) → Int32 → Int64 → Int32 → Option ((Nat → Nat → Int64))) (_ : ∀ (L_0 : Nat → Nat → Int64) (v2 : Int32) (v3 : Int64) (v5 : Int32) (H : Heap) (locs : List Loc) (ls : Array Slot), HS D A H0 [(h_0, oX6 h_0_of h_0_kept h_0_column h_0_size h_0_hidden h_0_cell h_0_home h_0_waste h_0_stock h_0_past h_0_start h_0_known h_0_sorted h_0_row h_0_best I_0), (h_0_of, eI cI 9 (I_0 1)), (h_0_kept, eI cI 9 (I_0 2)), (h_0_column, eJ cJ 5 (L_0 0)), (h_0_size, eI cI 5 (I_0 3)), (h_0_hidden, eI cI 5 (I_0 4)), (h_0_cell, eI cI 2 (I_0 5)), (h_0_home, eI cI 4 (I_0 6)), (h_0_waste, eI cI 8 (I_0 7)), (h_0_stock, eI cI 8 (I_0 8)), (h_0_past, eJ cJ 1616 (L_0 1)), (h_0_start, eJ cJ 8 (L_0 2)), (h_0_known, eJ cJ 3216 (L_0 3)), (h_0_sorted, eJ cJ 3216 (L_0 4)), (h_0_row, eI cI 16 (I_0 9)), (h_0_best, eJ cJ 8 (L_0 5))] H locs → lv_has ls 10 [(0, .ref h_0), (1, .ref h_0_start), (2, .int v2), (3, .long v3), (5, .int v5)] → K5 L_0 v2 v3 v5 = some r_L_0 → W p l e ({ frames := 0, cells := 0, slots := 0, locals := 0 } : Room) s m args below meth c H locs 0 0 Q (F0 m 5 ls [])) (L_0 : Nat → Nat → Int64) (v2 : Int32) (v3 : Int64) (v5 : Int32) (H : Heap) (locs : List Loc) (ls : Array Slot), HS D A H0 [(h_0, oX6 h_0_of h_0_kept h_0_column h_0_size h_0_hidden h_0_cell h_0_home h_0_waste h_0_stock h_0_past h_0_start h_0_known h_0_sorted h_0_row h_0_best I_0), (h_0_of, eI cI 9 (I_0 1)), (h_0_kept, eI cI 9 (I_0 2)), (h_0_column, eJ cJ 5 (L_0 0)), (h_0_size, eI cI 5 (I_0 3)), (h_0_hidden, eI cI 5 (I_0 4)), (h_0_cell, eI cI 2 (I_0 5)), (h_0_home, eI cI 4 (I_0 6)), (h_0_waste, eI cI 8 (I_0 7)), (h_0_stock, eI cI 8 (I_0 8)), (h_0_past, eJ cJ 1616 (L_0 1)), (h_0_start, eJ cJ 8 (L_0 2)), (h_0_known, eJ cJ 3216 (L_0 3)), (h_0_sorted, eJ cJ 3216 (L_0 4)), (h_0_row, eI cI 16 (I_0 9)), (h_0_best, eJ cJ 8 (L_0 5))] H locs → lv_has ls 10 [(0, .ref h_0), (1, .ref h_0_start), (2, .int v2), (3, .long v3), (5, .int v5)] → F_X6_store_s5 I_0 2 8 K5 L_0 v2 v3 v5 = some r_L_0 → W p l e ({ frames := 0, cells := 0, slots := 0, locals := 0 } : Room) s m args below meth c H locs 0 0 Q (F0 m 5 ls []) := by
    intro K5 hK5 L_0 v2 v3 v5 H locs ls hS hl hF
    unfold F_X6_store_s5 at hF
    refine lv_iload hx hb dX6_store_5 (lv_at hl 4 rfl) ?_
    refine lv_iconst (v := (nI 5)) hx hb dX6_store_7 (by decide) ?_
    refine lv_icmp_ge (tgt := 57) hx hb dX6_store_8 (by decide) (fun c_21 => ?_) (fun c_21 => ?_)
    · replace hF := ifp hF c_21
      exact B57 L_0 v2 v3 _ _ _ hS (lv_sub hl [0, 1, 2, 3] rfl) hF
    · replace hF := ifn hF c_21
      refine lv_aload_n hx hb dX6_store_11 rfl (lv_at hl 1 rfl) ?_
      refine lv_iload_n hx hb dX6_store_12 rfl (lv_at hl 2 rfl) ?_
      refine lv_iload hx hb dX6_store_13 (lv_at hl 4 rfl) ?_
      refine lv_iadd hx hb dX6_store_15 ?_
      refine lv_aload_n hx hb dX6_store_16 rfl (lv_at hl 0 rfl) ?_
      refine r_get hx hb hts inX6 hown hK hS 0 15 rfl rfl (by decide) q8 rfl dX6_store_17 ?_
      refine lv_iload hx hb dX6_store_20 (lv_at hl 4 rfl) ?_
      replace hF := rdA_e hF
      obtain ⟨hi23, x22, ex22, hF⟩ := hF
      refine r_lald hx hb hK hS 3 rfl rfl hi23 dX6_store_22 ex22 ?_
      replace hF := wrJ_e hF
      obtain ⟨hi25, L_0u24, eL_0u24, hF⟩ := hF
      refine r_last (w2 := [(h_0, oX6 h_0_of h_0_kept h_0_column h_0_size h_0_hidden h_0_cell h_0_home h_0_waste h_0_stock h_0_past h_0_start h_0_known h_0_sorted h_0_row h_0_best I_0), (h_0_of, eI cI 9 (I_0 1)), (h_0_kept, eI cI 9 (I_0 2)), (h_0_column, eJ cJ 5 (L_0u24 0)), (h_0_size, eI cI 5 (I_0 3)), (h_0_hidden, eI cI 5 (I_0 4)), (h_0_cell, eI cI 2 (I_0 5)), (h_0_home, eI cI 4 (I_0 6)), (h_0_waste, eI cI 8 (I_0 7)), (h_0_stock, eI cI 8 (I_0 8)), (h_0_past, eJ cJ 1616 (L_0u24 1)), (h_0_start, eJ cJ 8 (L_0u24 2)), (h_0_known, eJ cJ 3216 (L_0u24 3)), (h_0_sorted, eJ cJ 3216 (L_0u24 4)), (h_0_row, eI cI 16 (I_0 9)), (h_0_best, eJ cJ 8 (L_0u24 5))]) hx hb hK hS 11 rfl rfl hi25 dX6_store_23 (by rw [eL_0u24]; rfl) (fun H locs hS => ?_)
      refine lv_lload_n hx hb dX6_store_24 rfl (lv_at hl 3 rfl) ?_
      refine lv_aload_n hx hb dX6_store_25 rfl (lv_at hl 0 rfl) ?_
      refine r_get hx hb hts inX6 hown hK hS 0 16 rfl rfl (by decide) q9 rfl dX6_store_26 ?_
      refine lv_iload hx hb dX6_store_29 (lv_at hl 4 rfl) ?_
      replace hF := rdA_e hF
      obtain ⟨hi27, x26, ex26, hF⟩ := hF
      refine r_iald hx hb hK hS 4 rfl rfl hi27 dX6_store_31 ex26 ?_
      refine lv_aload_n hx hb dX6_store_32 rfl (lv_at hl 0 rfl) ?_
      refine r_get hx hb hts inX6 hown hK hS 0 17 rfl rfl (by decide) q10 rfl dX6_store_33 ?_
      refine lv_iload hx hb dX6_store_36 (lv_at hl 4 rfl) ?_
      replace hF := rdA_e hF
      obtain ⟨hi29, x28, ex28, hF⟩ := hF
      refine r_iald hx hb hK hS 5 rfl rfl hi29 dX6_store_38 ex28 ?_
      refine lv_iconst (v := (nI 5)) hx hb dX6_store_39 (by decide) ?_
      refine lv_ishl hx hb dX6_store_40 ?_
      refine lv_ior hx hb dX6_store_41 ?_
      refine lv_i2l hx hb dX6_store_42 rfl ?_
      refine lv_bipush (v := (nI 10)) hx hb dX6_store_43 (by decide) ?_
      refine lv_iload hx hb dX6_store_45 (lv_at hl 4 rfl) ?_
      refine lv_imul hx hb dX6_store_47 ?_
      refine lv_lshl hx hb dX6_store_48 rfl ?_
      refine lv_lor hx hb dX6_store_49 ?_
      refine lv_lstore_n (lv' := [(3, .long (v3 ||| ((((x26 ||| (x28 <<< ((nI 5) &&& 31))) : Int32).toInt64) <<< ((((nI 10) * v5) : Int32).toInt64 &&& 63)))), (0, .ref h_0), (1, .ref h_0_start), (2, .int v2), (5, .int v5)]) hx hb dX6_store_50 rfl hl (by decide) rfl (fun ls hl => ?_)
      refine lv_iinc (v := v5 + (nI 1)) (lv' := [(5, .int (v5 + (nI 1))), (3, .long (v3 ||| ((((x26 ||| (x28 <<< ((nI 5) &&& 31))) : Int32).toInt64) <<< ((((nI 10) * v5) : Int32).toInt64 &&& 63)))), (0, .ref h_0), (1, .ref h_0_start), (2, .int v2)]) hx hb dX6_store_51 hl (k := 4) rfl rfl (by decide) rfl (fun ls hl => ?_)
      refine lv_goto (tgt := 5) hx hb dX6_store_54 (by decide) ?_
      exact hK5 L_0u24 v2 (v3 ||| ((((x26 ||| (x28 <<< ((nI 5) &&& 31))) : Int32).toInt64) <<< ((((nI 10) * v5) : Int32).toInt64 &&& 63))) (v5 + (nI 1)) _ _ _ hS (lv_sub hl [2, 3, 4, 1, 0] rfl) hF
  have L5 : ∀  (n : Nat) (L_0 : Nat → Nat → Int64) (v2 : Int32) (v3 : Int64) (v5 : Int32) (H : Heap) (locs : List Loc) (ls : Array Slot), HS D A H0 [(h_0, oX6 h_0_of h_0_kept h_0_column h_0_size h_0_hidden h_0_cell h_0_home h_0_waste h_0_stock h_0_past h_0_start h_0_known h_0_sorted h_0_row h_0_best I_0), (h_0_of, eI cI 9 (I_0 1)), (h_0_kept, eI cI 9 (I_0 2)), (h_0_column, eJ cJ 5 (L_0 0)), (h_0_size, eI cI 5 (I_0 3)), (h_0_hidden, eI cI 5 (I_0 4)), (h_0_cell, eI cI 2 (I_0 5)), (h_0_home, eI cI 4 (I_0 6)), (h_0_waste, eI cI 8 (I_0 7)), (h_0_stock, eI cI 8 (I_0 8)), (h_0_past, eJ cJ 1616 (L_0 1)), (h_0_start, eJ cJ 8 (L_0 2)), (h_0_known, eJ cJ 3216 (L_0 3)), (h_0_sorted, eJ cJ 3216 (L_0 4)), (h_0_row, eI cI 16 (I_0 9)), (h_0_best, eJ cJ 8 (L_0 5))] H locs → lv_has ls 10 [(0, .ref h_0), (1, .ref h_0_start), (2, .int v2), (3, .long v3), (5, .int v5)] → F_X6_store_L5 I_0 2 8  n L_0 v2 v3 v5 = some r_L_0 → W p l e ({ frames := 0, cells := 0, slots := 0, locals := 0 } : Room) s m args below meth c H locs 0 0 Q (F0 m 5 ls []) := by
    intro  n
    induction n with
    | zero => intro L_0 v2 v3 v5 H locs ls hS hl hF; exact nomatch (show (none : Option ((Nat → Nat → Int64))) = some _ from hF)
    | succ n ih => intro L_0 v2 v3 v5 H locs ls hS hl hF; exact S5  _ ih L_0 v2 v3 v5 H locs ls hS hl hF
  unfold F_X6_store at hF
  refine lv_lconst (v := (lN 0)) hx hb dX6_store_0 (by decide) ?_
  refine lv_lstore_n (lv' := [(3, .long (lN 0)), (0, .ref h_0), (1, .ref h_0_start), (2, .int v2)]) hx hb dX6_store_1 rfl hl (by decide) rfl (fun ls hl => ?_)
  refine lv_iconst (v := (nI 0)) hx hb dX6_store_2 (by decide) ?_
  refine lv_istore (lv' := [(5, .int (nI 0)), (3, .long (lN 0)), (0, .ref h_0), (1, .ref h_0_start), (2, .int v2)]) hx hb dX6_store_3 hl (by decide) rfl (fun ls hl => ?_)
  exact L5 FU L_0 v2 (lN 0) (nI 0) _ _ _ hS (lv_sub hl [2, 3, 4, 1, 0] rfl) hF
